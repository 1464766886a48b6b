theorem dX10_condensedEdgeCount_0 : decode cX10_condensedEdgeCount 0 = .ok (.aload_n 0, 1) := by decide +kernel
theorem dX10_condensedEdgeCount_1 : decode cX10_condensedEdgeCount 1 = .ok (.iconst 0, 1) := by decide +kernel
theorem dX10_condensedEdgeCount_2 : decode cX10_condensedEdgeCount 2 = .ok (.putfield 85, 3) := by decide +kernel
theorem dX10_condensedEdgeCount_5 : decode cX10_condensedEdgeCount 5 = .ok (.aload_n 0, 1) := by decide +kernel
theorem dX10_condensedEdgeCount_6 : decode cX10_condensedEdgeCount 6 = .ok (.invokevirtual 342, 3) := by decide +kernel
theorem dX10_condensedEdgeCount_9 : decode cX10_condensedEdgeCount 9 = .ok (.iconst 0, 1) := by decide +kernel
theorem dX10_condensedEdgeCount_10 : decode cX10_condensedEdgeCount 10 = .ok (.istore_n 1, 1) := by decide +kernel
theorem dX10_condensedEdgeCount_11 : decode cX10_condensedEdgeCount 11 = .ok (.iconst 0, 1) := by decide +kernel
theorem dX10_condensedEdgeCount_12 : decode cX10_condensedEdgeCount 12 = .ok (.istore_n 2, 1) := by decide +kernel
theorem dX10_condensedEdgeCount_13 : decode cX10_condensedEdgeCount 13 = .ok (.iload_n 2, 1) := by decide +kernel
theorem dX10_condensedEdgeCount_14 : decode cX10_condensedEdgeCount 14 = .ok (.bipush 56, 2) := by decide +kernel
theorem dX10_condensedEdgeCount_16 : decode cX10_condensedEdgeCount 16 = .ok (.if_icmp .ge 16, 3) := by decide +kernel
theorem dX10_condensedEdgeCount_19 : decode cX10_condensedEdgeCount 19 = .ok (.aload_n 0, 1) := by decide +kernel
theorem dX10_condensedEdgeCount_20 : decode cX10_condensedEdgeCount 20 = .ok (.getfield 76, 3) := by decide +kernel
theorem dX10_condensedEdgeCount_23 : decode cX10_condensedEdgeCount 23 = .ok (.iload_n 2, 1) := by decide +kernel
theorem dX10_condensedEdgeCount_24 : decode cX10_condensedEdgeCount 24 = .ok (.lconst 0, 1) := by decide +kernel
theorem dX10_condensedEdgeCount_25 : decode cX10_condensedEdgeCount 25 = .ok (.lastore, 1) := by decide +kernel
theorem dX10_condensedEdgeCount_26 : decode cX10_condensedEdgeCount 26 = .ok (.iinc 2 1, 3) := by decide +kernel
theorem dX10_condensedEdgeCount_29 : decode cX10_condensedEdgeCount 29 = .ok (.goto (-16), 3) := by decide +kernel
theorem dX10_condensedEdgeCount_32 : decode cX10_condensedEdgeCount 32 = .ok (.iconst 0, 1) := by decide +kernel
theorem dX10_condensedEdgeCount_33 : decode cX10_condensedEdgeCount 33 = .ok (.istore_n 2, 1) := by decide +kernel
theorem dX10_condensedEdgeCount_34 : decode cX10_condensedEdgeCount 34 = .ok (.iload_n 2, 1) := by decide +kernel
theorem dX10_condensedEdgeCount_35 : decode cX10_condensedEdgeCount 35 = .ok (.bipush 56, 2) := by decide +kernel
theorem dX10_condensedEdgeCount_37 : decode cX10_condensedEdgeCount 37 = .ok (.if_icmp .ge 65, 3) := by decide +kernel
theorem dX10_condensedEdgeCount_40 : decode cX10_condensedEdgeCount 40 = .ok (.iconst 0, 1) := by decide +kernel
theorem dX10_condensedEdgeCount_41 : decode cX10_condensedEdgeCount 41 = .ok (.istore_n 3, 1) := by decide +kernel
theorem dX10_condensedEdgeCount_42 : decode cX10_condensedEdgeCount 42 = .ok (.iload_n 3, 1) := by decide +kernel
theorem dX10_condensedEdgeCount_43 : decode cX10_condensedEdgeCount 43 = .ok (.bipush 56, 2) := by decide +kernel
theorem dX10_condensedEdgeCount_45 : decode cX10_condensedEdgeCount 45 = .ok (.if_icmp .ge 51, 3) := by decide +kernel
theorem dX10_condensedEdgeCount_48 : decode cX10_condensedEdgeCount 48 = .ok (.aload_n 0, 1) := by decide +kernel
theorem dX10_condensedEdgeCount_49 : decode cX10_condensedEdgeCount 49 = .ok (.getfield 70, 3) := by decide +kernel
theorem dX10_condensedEdgeCount_52 : decode cX10_condensedEdgeCount 52 = .ok (.iload_n 2, 1) := by decide +kernel
theorem dX10_condensedEdgeCount_53 : decode cX10_condensedEdgeCount 53 = .ok (.laload, 1) := by decide +kernel
theorem dX10_condensedEdgeCount_54 : decode cX10_condensedEdgeCount 54 = .ok (.iload_n 3, 1) := by decide +kernel
theorem dX10_condensedEdgeCount_55 : decode cX10_condensedEdgeCount 55 = .ok (.invokestatic 335, 3) := by decide +kernel
theorem dX10_condensedEdgeCount_58 : decode cX10_condensedEdgeCount 58 = .ok (.ifCond .eq 32, 3) := by decide +kernel
theorem dX10_condensedEdgeCount_61 : decode cX10_condensedEdgeCount 61 = .ok (.aload_n 0, 1) := by decide +kernel
theorem dX10_condensedEdgeCount_62 : decode cX10_condensedEdgeCount 62 = .ok (.iload_n 2, 1) := by decide +kernel
theorem dX10_condensedEdgeCount_63 : decode cX10_condensedEdgeCount 63 = .ok (.iload_n 3, 1) := by decide +kernel
theorem dX10_condensedEdgeCount_64 : decode cX10_condensedEdgeCount 64 = .ok (.invokevirtual 339, 3) := by decide +kernel
theorem dX10_condensedEdgeCount_67 : decode cX10_condensedEdgeCount 67 = .ok (.ifCond .ne 23, 3) := by decide +kernel
theorem dX10_condensedEdgeCount_70 : decode cX10_condensedEdgeCount 70 = .ok (.aload_n 0, 1) := by decide +kernel
theorem dX10_condensedEdgeCount_71 : decode cX10_condensedEdgeCount 71 = .ok (.getfield 76, 3) := by decide +kernel
theorem dX10_condensedEdgeCount_74 : decode cX10_condensedEdgeCount 74 = .ok (.aload_n 0, 1) := by decide +kernel
theorem dX10_condensedEdgeCount_75 : decode cX10_condensedEdgeCount 75 = .ok (.iload_n 2, 1) := by decide +kernel
theorem dX10_condensedEdgeCount_76 : decode cX10_condensedEdgeCount 76 = .ok (.invokevirtual 348, 3) := by decide +kernel
theorem dX10_condensedEdgeCount_79 : decode cX10_condensedEdgeCount 79 = .ok (.dup2, 1) := by decide +kernel
theorem dX10_condensedEdgeCount_80 : decode cX10_condensedEdgeCount 80 = .ok (.laload, 1) := by decide +kernel
theorem dX10_condensedEdgeCount_81 : decode cX10_condensedEdgeCount 81 = .ok (.lconst 1, 1) := by decide +kernel
theorem dX10_condensedEdgeCount_82 : decode cX10_condensedEdgeCount 82 = .ok (.aload_n 0, 1) := by decide +kernel
theorem dX10_condensedEdgeCount_83 : decode cX10_condensedEdgeCount 83 = .ok (.iload_n 3, 1) := by decide +kernel
theorem dX10_condensedEdgeCount_84 : decode cX10_condensedEdgeCount 84 = .ok (.invokevirtual 348, 3) := by decide +kernel
theorem dX10_condensedEdgeCount_87 : decode cX10_condensedEdgeCount 87 = .ok (.lshl, 1) := by decide +kernel
theorem dX10_condensedEdgeCount_88 : decode cX10_condensedEdgeCount 88 = .ok (.lor, 1) := by decide +kernel
theorem dX10_condensedEdgeCount_89 : decode cX10_condensedEdgeCount 89 = .ok (.lastore, 1) := by decide +kernel
theorem dX10_condensedEdgeCount_90 : decode cX10_condensedEdgeCount 90 = .ok (.iinc 3 1, 3) := by decide +kernel
theorem dX10_condensedEdgeCount_93 : decode cX10_condensedEdgeCount 93 = .ok (.goto (-51), 3) := by decide +kernel
theorem dX10_condensedEdgeCount_96 : decode cX10_condensedEdgeCount 96 = .ok (.iinc 2 1, 3) := by decide +kernel
theorem dX10_condensedEdgeCount_99 : decode cX10_condensedEdgeCount 99 = .ok (.goto (-65), 3) := by decide +kernel
theorem dX10_condensedEdgeCount_102 : decode cX10_condensedEdgeCount 102 = .ok (.iconst 0, 1) := by decide +kernel
theorem dX10_condensedEdgeCount_103 : decode cX10_condensedEdgeCount 103 = .ok (.istore_n 2, 1) := by decide +kernel
theorem dX10_condensedEdgeCount_104 : decode cX10_condensedEdgeCount 104 = .ok (.iload_n 2, 1) := by decide +kernel
theorem dX10_condensedEdgeCount_105 : decode cX10_condensedEdgeCount 105 = .ok (.bipush 56, 2) := by decide +kernel
theorem dX10_condensedEdgeCount_107 : decode cX10_condensedEdgeCount 107 = .ok (.if_icmp .ge 44, 3) := by decide +kernel
theorem dX10_condensedEdgeCount_110 : decode cX10_condensedEdgeCount 110 = .ok (.iconst 0, 1) := by decide +kernel
theorem dX10_condensedEdgeCount_111 : decode cX10_condensedEdgeCount 111 = .ok (.istore_n 3, 1) := by decide +kernel
theorem dX10_condensedEdgeCount_112 : decode cX10_condensedEdgeCount 112 = .ok (.iload_n 3, 1) := by decide +kernel
theorem dX10_condensedEdgeCount_113 : decode cX10_condensedEdgeCount 113 = .ok (.bipush 56, 2) := by decide +kernel
theorem dX10_condensedEdgeCount_115 : decode cX10_condensedEdgeCount 115 = .ok (.if_icmp .ge 30, 3) := by decide +kernel
theorem dX10_condensedEdgeCount_118 : decode cX10_condensedEdgeCount 118 = .ok (.iload_n 1, 1) := by decide +kernel
theorem dX10_condensedEdgeCount_119 : decode cX10_condensedEdgeCount 119 = .ok (.aload_n 0, 1) := by decide +kernel
theorem dX10_condensedEdgeCount_120 : decode cX10_condensedEdgeCount 120 = .ok (.getfield 76, 3) := by decide +kernel
theorem dX10_condensedEdgeCount_123 : decode cX10_condensedEdgeCount 123 = .ok (.iload_n 2, 1) := by decide +kernel
theorem dX10_condensedEdgeCount_124 : decode cX10_condensedEdgeCount 124 = .ok (.laload, 1) := by decide +kernel
theorem dX10_condensedEdgeCount_125 : decode cX10_condensedEdgeCount 125 = .ok (.iload_n 3, 1) := by decide +kernel
theorem dX10_condensedEdgeCount_126 : decode cX10_condensedEdgeCount 126 = .ok (.invokestatic 335, 3) := by decide +kernel
theorem dX10_condensedEdgeCount_129 : decode cX10_condensedEdgeCount 129 = .ok (.ifCond .eq 7, 3) := by decide +kernel
theorem dX10_condensedEdgeCount_132 : decode cX10_condensedEdgeCount 132 = .ok (.iconst 1, 1) := by decide +kernel
theorem dX10_condensedEdgeCount_133 : decode cX10_condensedEdgeCount 133 = .ok (.goto 4, 3) := by decide +kernel
theorem dX10_condensedEdgeCount_136 : decode cX10_condensedEdgeCount 136 = .ok (.iconst 0, 1) := by decide +kernel
theorem dX10_condensedEdgeCount_137 : decode cX10_condensedEdgeCount 137 = .ok (.iadd, 1) := by decide +kernel
theorem dX10_condensedEdgeCount_138 : decode cX10_condensedEdgeCount 138 = .ok (.istore_n 1, 1) := by decide +kernel
theorem dX10_condensedEdgeCount_139 : decode cX10_condensedEdgeCount 139 = .ok (.iinc 3 1, 3) := by decide +kernel
theorem dX10_condensedEdgeCount_142 : decode cX10_condensedEdgeCount 142 = .ok (.goto (-30), 3) := by decide +kernel
theorem dX10_condensedEdgeCount_145 : decode cX10_condensedEdgeCount 145 = .ok (.iinc 2 1, 3) := by decide +kernel
theorem dX10_condensedEdgeCount_148 : decode cX10_condensedEdgeCount 148 = .ok (.goto (-44), 3) := by decide +kernel
theorem dX10_condensedEdgeCount_151 : decode cX10_condensedEdgeCount 151 = .ok (.iload_n 1, 1) := by decide +kernel
theorem dX10_condensedEdgeCount_152 : decode cX10_condensedEdgeCount 152 = .ok (.ireturn, 1) := by decide +kernel
set_option maxHeartbeats 4000000 in
set_option maxRecDepth 100000 in
theorem c_X10_condensedEdgeCount {l : Launch} {g : Gh} {w : Wd} {k0 : Nat} {rz : Int32} {wz : Wd} (hF : f_X10_condensedEdgeCount w k0 = some (rz, wz)) (hk0 : zct zM k0 = 10) : Met l yX10_condensedEdgeCount (Cond.code yX10_condensedEdgeCount cX10_condensedEdgeCount 4 (some .int) :: TT) (rmd 4) (Pcw zM g w [.ref (g.2.2 k0)]) (Qw zM g wz (some (.int (rz)))) 0 0 (zA zM g) := by
  refine mt_start (by decide) (Nat.le_of_ble_eq_true rfl) ?_
  intro p e s m args below meth c H locs ls X hr hl hH
  have hx := X.1
  have hb := X.2.1
  have hml := X.2.2.1
  have hown := X.2.2.2.1
  have ht := X.2.2.2.2.1
  have hl : lv_has ls 4 [(0, .ref (g.2.2 (k0)))] := hl
  unfold f_X10_condensedEdgeCount at hF
  refine lv_aload_n hx hb dX10_condensedEdgeCount_0 rfl (lv_at hl 0 rfl) ?_
  refine lv_iconst (v := (0 : Int32)) hx hb dX10_condensedEdgeCount_1 (by decide) ?_
  obtain ⟨w1, h1, hF⟩ := ob hF
  refine w_puti X hH h1 hk0 fs_10_0 nf_10_0 lk_10_85 dX10_condensedEdgeCount_2 (fun H locs hH => ?_)
  refine lv_aload_n hx hb dX10_condensedEdgeCount_5 rfl (lv_at hl 0 rfl) ?_
  obtain ⟨w2, h2, hF⟩ := ob hF
  refine w_callV (As := []) (k := k0) (rest := []) (st1 := []) X hH (c_X10_layReach (l := l) (g := g) (w := w1) (k0 := k0) h2 hk0) (Or.inl tw_7_62) ms_X10_layReach im_X10_layReach hk0 cn_10 ⟨Nat.le_of_ble_eq_true rfl, Nat.le_of_ble_eq_true rfl⟩ rfl rfl hl.1 (Nat.le_of_ble_eq_true rfl) dX10_condensedEdgeCount_6 ⟨Nat.le_refl _, Nat.le_refl _⟩ rfl (fun H locs hH => ?_)
  refine lv_iconst (v := (0 : Int32)) hx hb dX10_condensedEdgeCount_9 (by decide) ?_
  refine lv_istore_n (lv' := [(1, .int ((0 : Int32))), (0, .ref (g.2.2 (k0)))]) hx hb dX10_condensedEdgeCount_10 rfl hl (by decide) rfl (fun ls hl => ?_)
  refine lv_iconst (v := (0 : Int32)) hx hb dX10_condensedEdgeCount_11 (by decide) ?_
  refine lv_istore_n (lv' := [(2, .int ((0 : Int32))), (1, .int ((0 : Int32))), (0, .ref (g.2.2 (k0)))]) hx hb dX10_condensedEdgeCount_12 rfl hl (by decide) rfl (fun ls hl => ?_)
  obtain ⟨r4, hLr4, hF⟩ := ob hF
  have Jr4 : ∀ (H : Heap) (locs : List Loc) (ls : Array Slot), HW zM g r4 s.heap H locs → lv_has ls 4 [(0, .ref (g.2.2 (k0))), (1, .int ((0 : Int32)))] → W p l e (rmd 4) s m args below meth c H locs 0 0 (MQ below (Qw zM g wz (some (.int (rz)))) args s 0 0 (zA zM g)) (F0 m 32 ls []) := by
    intro H locs ls hH hl
    refine lv_iconst (v := (0 : Int32)) hx hb dX10_condensedEdgeCount_32 (by decide) ?_
    refine lv_istore_n (lv' := [(2, .int ((0 : Int32))), (0, .ref (g.2.2 (k0))), (1, .int ((0 : Int32)))]) hx hb dX10_condensedEdgeCount_33 rfl hl (by decide) rfl (fun ls hl => ?_)
    obtain ⟨r8, hLr8, hF⟩ := ob hF
    have Jr8 : ∀ (H : Heap) (locs : List Loc) (ls : Array Slot), HW zM g r8 s.heap H locs → lv_has ls 4 [(0, .ref (g.2.2 (k0))), (1, .int ((0 : Int32)))] → W p l e (rmd 4) s m args below meth c H locs 0 0 (MQ below (Qw zM g wz (some (.int (rz)))) args s 0 0 (zA zM g)) (F0 m 102 ls []) := by
      intro H locs ls hH hl
      refine lv_iconst (v := (0 : Int32)) hx hb dX10_condensedEdgeCount_102 (by decide) ?_
      refine lv_istore_n (lv' := [(2, .int ((0 : Int32))), (0, .ref (g.2.2 (k0))), (1, .int ((0 : Int32)))]) hx hb dX10_condensedEdgeCount_103 rfl hl (by decide) rfl (fun ls hl => ?_)
      obtain ⟨r24, hLr24, hF⟩ := ob hF
      have Jr24 : ∀ (H : Heap) (locs : List Loc) (ls : Array Slot), HW zM g r8 s.heap H locs → lv_has ls 4 [(0, .ref (g.2.2 (k0))), (1, .int (r24))] → W p l e (rmd 4) s m args below meth c H locs 0 0 (MQ below (Qw zM g wz (some (.int (rz)))) args s 0 0 (zA zM g)) (F0 m 151 ls []) := by
        intro H locs ls hH hl
        refine lv_iload_n hx hb dX10_condensedEdgeCount_151 rfl (lv_at hl 1 rfl) ?_
        obtain ⟨rfl, rfl⟩ := se2 hF
        exact w_iret X hH hr dX10_condensedEdgeCount_152
      have Lr24 : ∀ (n : Nat) (s23 : Int32 × Int32), lp (b_X10_condensedEdgeCount_4 r8 k0) n s23 = some r24 → ∀ (H : Heap) (locs : List Loc) (ls : Array Slot), HW zM g r8 s.heap H locs → lv_has ls 4 [(0, .ref (g.2.2 (k0))), (1, .int (s23.1)), (2, .int (s23.2))] → W p l e (rmd 4) s m args below meth c H locs 0 0 (MQ below (Qw zM g wz (some (.int (rz)))) args s 0 0 (zA zM g)) (F0 m 104 ls []) := by
        intro n
        induction n with
        | zero => intro s23 hL; exact lp_0 hL
        | succ n ih =>
          intro s23 hL H locs ls hH hl
          obtain ⟨bb, hF, hL⟩ := lp_s hL
          unfold b_X10_condensedEdgeCount_4 at hF
          refine lv_iload_n hx hb dX10_condensedEdgeCount_104 rfl (lv_at hl 2 rfl) ?_
          refine lv_bipush (v := (56 : Int32)) hx hb dX10_condensedEdgeCount_105 (by decide) ?_
          refine w_ilt_f (tgt := 151) hx hb dX10_condensedEdgeCount_107 (by decide) (fun c25 => ?_) (fun c25 => ?_)
          · replace hF := ifn c25 hF
            obtain rfl := se1 hF
            subst hL
            exact Jr24 _ _ _ hH (lv_sub hl [0, 1] rfl)
          · replace hF := ifp c25 hF
            refine lv_iconst (v := (0 : Int32)) hx hb dX10_condensedEdgeCount_110 (by decide) ?_
            refine lv_istore_n (lv' := [(3, .int ((0 : Int32))), (0, .ref (g.2.2 (k0))), (1, .int (s23.1)), (2, .int (s23.2))]) hx hb dX10_condensedEdgeCount_111 rfl hl (by decide) rfl (fun ls hl => ?_)
            obtain ⟨r27, hLr27, hF⟩ := ob hF
            have Jr27 : ∀ (H : Heap) (locs : List Loc) (ls : Array Slot), HW zM g r8 s.heap H locs → lv_has ls 4 [(0, .ref (g.2.2 (k0))), (1, .int (r27)), (2, .int (s23.2))] → W p l e (rmd 4) s m args below meth c H locs 0 0 (MQ below (Qw zM g wz (some (.int (rz)))) args s 0 0 (zA zM g)) (F0 m 145 ls []) := by
              intro H locs ls hH hl
              refine lv_iinc (v := (s23.2 + (1 : Int32))) (lv' := [(2, .int ((s23.2 + (1 : Int32)))), (0, .ref (g.2.2 (k0))), (1, .int (r27))]) hx hb dX10_condensedEdgeCount_145 hl (k := 2) rfl rfl (by decide) rfl (fun ls hl => ?_)
              refine lv_goto (tgt := 104) hx hb dX10_condensedEdgeCount_148 (by decide) ?_
              obtain rfl := se1 hF
              exact ih _ hL _ _ _ hH (lv_sub hl [1, 2, 0] rfl)
            have Lr27 : ∀ (n : Nat) (s26 : Int32 × Int32), lp (b_X10_condensedEdgeCount_5 r8 k0 s23) n s26 = some r27 → ∀ (H : Heap) (locs : List Loc) (ls : Array Slot), HW zM g r8 s.heap H locs → lv_has ls 4 [(0, .ref (g.2.2 (k0))), (1, .int (s26.1)), (2, .int (s23.2)), (3, .int (s26.2))] → W p l e (rmd 4) s m args below meth c H locs 0 0 (MQ below (Qw zM g wz (some (.int (rz)))) args s 0 0 (zA zM g)) (F0 m 112 ls []) := by
              intro n
              induction n with
              | zero => intro s26 hL; exact lp_0 hL
              | succ n ih =>
                intro s26 hL H locs ls hH hl
                obtain ⟨bb, hF, hL⟩ := lp_s hL
                unfold b_X10_condensedEdgeCount_5 at hF
                refine lv_iload_n hx hb dX10_condensedEdgeCount_112 rfl (lv_at hl 3 rfl) ?_
                refine lv_bipush (v := (56 : Int32)) hx hb dX10_condensedEdgeCount_113 (by decide) ?_
                refine w_ilt_f (tgt := 145) hx hb dX10_condensedEdgeCount_115 (by decide) (fun c28 => ?_) (fun c28 => ?_)
                · replace hF := ifn c28 hF
                  obtain rfl := se1 hF
                  subst hL
                  exact Jr27 _ _ _ hH (lv_sub hl [0, 1, 2] rfl)
                · replace hF := ifp c28 hF
                  refine lv_iload_n hx hb dX10_condensedEdgeCount_118 rfl (lv_at hl 1 rfl) ?_
                  refine lv_aload_n hx hb dX10_condensedEdgeCount_119 rfl (lv_at hl 0 rfl) ?_
                  refine w_getr X hH hk0 fs_10_39 lk_10_76 dX10_condensedEdgeCount_120 ?_
                  refine lv_iload_n hx hb dX10_condensedEdgeCount_123 rfl (lv_at hl 2 rfl) ?_
                  obtain ⟨x30, h30, hF⟩ := ob hF
                  refine w_lald X hH h30 (rt_M_10_39 hk0) dX10_condensedEdgeCount_124 ?_
                  refine lv_iload_n hx hb dX10_condensedEdgeCount_125 rfl (lv_at hl 3 rfl) ?_
                  refine w_callS (As := [.long (x30), .int (s26.2)]) (rest := [.int (s26.1)]) (st1 := [.int (bI ((f_X10_hasBit (x30) (s26.2)))), .int (s26.1)]) X hH (c_X10_hasBit (l := l) (g := g) (w := r8) (v_set := x30) (v_k := s26.2) rfl) (Or.inl tw_7_47) ms_X10_hasBit tw_7_48 ⟨Nat.le_of_ble_eq_true rfl, Nat.le_of_ble_eq_true rfl⟩ rfl rfl hl.1 (Nat.le_of_ble_eq_true rfl) dX10_condensedEdgeCount_126 ⟨Nat.le_refl _, Nat.le_refl _⟩ rfl (fun H locs hH => ?_)
                  have J29 : ∀ (H : Heap) (locs : List Loc), HW zM g r8 s.heap H locs → W p l e (rmd 4) s m args below meth c H locs 0 0 (MQ below (Qw zM g wz (some (.int (rz)))) args s 0 0 (zA zM g)) (F0 m 137 ls [.int ((if (f_X10_hasBit (x30) (s26.2)) = true then (1 : Int32) else (0 : Int32))), .int (s26.1)]) := by
                    intro H locs hH
                    refine lv_iadd hx hb dX10_condensedEdgeCount_137 ?_
                    refine lv_istore_n (lv' := [(1, .int ((s26.1 + (if (f_X10_hasBit (x30) (s26.2)) = true then (1 : Int32) else (0 : Int32))))), (0, .ref (g.2.2 (k0))), (2, .int (s23.2)), (3, .int (s26.2))]) hx hb dX10_condensedEdgeCount_138 rfl hl (by decide) rfl (fun ls hl => ?_)
                    refine lv_iinc (v := (s26.2 + (1 : Int32))) (lv' := [(3, .int ((s26.2 + (1 : Int32)))), (1, .int ((s26.1 + (if (f_X10_hasBit (x30) (s26.2)) = true then (1 : Int32) else (0 : Int32))))), (0, .ref (g.2.2 (k0))), (2, .int (s23.2))]) hx hb dX10_condensedEdgeCount_139 hl (k := 3) rfl rfl (by decide) rfl (fun ls hl => ?_)
                    refine lv_goto (tgt := 112) hx hb dX10_condensedEdgeCount_142 (by decide) ?_
                    obtain rfl := se1 hF
                    exact ih _ hL _ _ _ hH (lv_sub hl [2, 1, 3, 0] rfl)
                  refine w_b_f (tgt := 136) hx hb dX10_condensedEdgeCount_129 (by decide) (fun c31 => ?_) (fun c31 => ?_)
                  · refine lv_iconst (v := (0 : Int32)) hx hb dX10_condensedEdgeCount_136 (by decide) ?_
                    exact w_in c31 (J29 _ _ hH)
                  · refine lv_iconst (v := (1 : Int32)) hx hb dX10_condensedEdgeCount_132 (by decide) ?_
                    refine lv_goto (tgt := 137) hx hb dX10_condensedEdgeCount_133 (by decide) ?_
                    exact w_ip c31 (J29 _ _ hH)
            exact Lr27 NF _ hLr27 _ _ _ hH (lv_sub hl [1, 2, 3, 0] rfl)
      exact Lr24 NF _ hLr24 _ _ _ hH (lv_sub hl [1, 2, 0] rfl)
    have Lr8 : ∀ (n : Nat) (s7 : Int32 × Wd), lp (b_X10_condensedEdgeCount_2 k0) n s7 = some r8 → ∀ (H : Heap) (locs : List Loc) (ls : Array Slot), HW zM g s7.2 s.heap H locs → lv_has ls 4 [(0, .ref (g.2.2 (k0))), (1, .int ((0 : Int32))), (2, .int (s7.1))] → W p l e (rmd 4) s m args below meth c H locs 0 0 (MQ below (Qw zM g wz (some (.int (rz)))) args s 0 0 (zA zM g)) (F0 m 34 ls []) := by
      intro n
      induction n with
      | zero => intro s7 hL; exact lp_0 hL
      | succ n ih =>
        intro s7 hL H locs ls hH hl
        obtain ⟨bb, hF, hL⟩ := lp_s hL
        unfold b_X10_condensedEdgeCount_2 at hF
        refine lv_iload_n hx hb dX10_condensedEdgeCount_34 rfl (lv_at hl 2 rfl) ?_
        refine lv_bipush (v := (56 : Int32)) hx hb dX10_condensedEdgeCount_35 (by decide) ?_
        refine w_ilt_f (tgt := 102) hx hb dX10_condensedEdgeCount_37 (by decide) (fun c9 => ?_) (fun c9 => ?_)
        · replace hF := ifn c9 hF
          obtain rfl := se1 hF
          subst hL
          exact Jr8 _ _ _ hH (lv_sub hl [0, 1] rfl)
        · replace hF := ifp c9 hF
          refine lv_iconst (v := (0 : Int32)) hx hb dX10_condensedEdgeCount_40 (by decide) ?_
          refine lv_istore_n (lv' := [(3, .int ((0 : Int32))), (0, .ref (g.2.2 (k0))), (1, .int ((0 : Int32))), (2, .int (s7.1))]) hx hb dX10_condensedEdgeCount_41 rfl hl (by decide) rfl (fun ls hl => ?_)
          obtain ⟨r11, hLr11, hF⟩ := ob hF
          have Jr11 : ∀ (H : Heap) (locs : List Loc) (ls : Array Slot), HW zM g r11 s.heap H locs → lv_has ls 4 [(0, .ref (g.2.2 (k0))), (1, .int ((0 : Int32))), (2, .int (s7.1))] → W p l e (rmd 4) s m args below meth c H locs 0 0 (MQ below (Qw zM g wz (some (.int (rz)))) args s 0 0 (zA zM g)) (F0 m 96 ls []) := by
            intro H locs ls hH hl
            refine lv_iinc (v := (s7.1 + (1 : Int32))) (lv' := [(2, .int ((s7.1 + (1 : Int32)))), (0, .ref (g.2.2 (k0))), (1, .int ((0 : Int32)))]) hx hb dX10_condensedEdgeCount_96 hl (k := 2) rfl rfl (by decide) rfl (fun ls hl => ?_)
            refine lv_goto (tgt := 34) hx hb dX10_condensedEdgeCount_99 (by decide) ?_
            obtain rfl := se1 hF
            exact ih _ hL _ _ _ hH (lv_sub hl [1, 2, 0] rfl)
          have Lr11 : ∀ (n : Nat) (s10 : Int32 × Wd), lp (b_X10_condensedEdgeCount_3 k0 s7) n s10 = some r11 → ∀ (H : Heap) (locs : List Loc) (ls : Array Slot), HW zM g s10.2 s.heap H locs → lv_has ls 4 [(0, .ref (g.2.2 (k0))), (1, .int ((0 : Int32))), (2, .int (s7.1)), (3, .int (s10.1))] → W p l e (rmd 4) s m args below meth c H locs 0 0 (MQ below (Qw zM g wz (some (.int (rz)))) args s 0 0 (zA zM g)) (F0 m 42 ls []) := by
            intro n
            induction n with
            | zero => intro s10 hL; exact lp_0 hL
            | succ n ih =>
              intro s10 hL H locs ls hH hl
              obtain ⟨bb, hF, hL⟩ := lp_s hL
              unfold b_X10_condensedEdgeCount_3 at hF
              refine lv_iload_n hx hb dX10_condensedEdgeCount_42 rfl (lv_at hl 3 rfl) ?_
              refine lv_bipush (v := (56 : Int32)) hx hb dX10_condensedEdgeCount_43 (by decide) ?_
              refine w_ilt_f (tgt := 96) hx hb dX10_condensedEdgeCount_45 (by decide) (fun c12 => ?_) (fun c12 => ?_)
              · replace hF := ifn c12 hF
                obtain rfl := se1 hF
                subst hL
                exact Jr11 _ _ _ hH (lv_sub hl [0, 1, 2] rfl)
              · replace hF := ifp c12 hF
                obtain ⟨s13, hs13, hF⟩ := ob hF
                have Js13 : ∀ (H : Heap) (locs : List Loc) (ls : Array Slot), HW zM g s13 s.heap H locs → lv_has ls 4 [(0, .ref (g.2.2 (k0))), (1, .int ((0 : Int32))), (2, .int (s7.1)), (3, .int (s10.1))] → W p l e (rmd 4) s m args below meth c H locs 0 0 (MQ below (Qw zM g wz (some (.int (rz)))) args s 0 0 (zA zM g)) (F0 m 90 ls []) := by
                  intro H locs ls hH hl
                  refine lv_iinc (v := (s10.1 + (1 : Int32))) (lv' := [(3, .int ((s10.1 + (1 : Int32)))), (0, .ref (g.2.2 (k0))), (1, .int ((0 : Int32))), (2, .int (s7.1))]) hx hb dX10_condensedEdgeCount_90 hl (k := 3) rfl rfl (by decide) rfl (fun ls hl => ?_)
                  refine lv_goto (tgt := 42) hx hb dX10_condensedEdgeCount_93 (by decide) ?_
                  obtain rfl := se1 hF
                  exact ih _ hL _ _ _ hH (lv_sub hl [1, 2, 3, 0] rfl)
                have hF := hs13
                obtain ⟨b14, hb14, hF⟩ := ob hF
                have Jb14T : b14 = true → ∀ (H : Heap) (locs : List Loc), HW zM g s10.2 s.heap H locs → W p l e (rmd 4) s m args below meth c H locs 0 0 (MQ below (Qw zM g wz (some (.int (rz)))) args s 0 0 (zA zM g)) (F0 m 70 ls []) := by
                  intro hc H locs hH
                  replace hF := ifp hc hF
                  refine lv_aload_n hx hb dX10_condensedEdgeCount_70 rfl (lv_at hl 0 rfl) ?_
                  refine w_getr X hH hk0 fs_10_39 lk_10_76 dX10_condensedEdgeCount_71 ?_
                  refine lv_aload_n hx hb dX10_condensedEdgeCount_74 rfl (lv_at hl 0 rfl) ?_
                  refine lv_iload_n hx hb dX10_condensedEdgeCount_75 rfl (lv_at hl 2 rfl) ?_
                  obtain ⟨x19, h19, hF⟩ := ob hF
                  refine w_callV (As := [.int (s7.1)]) (k := k0) (rest := [.ref (g.2.2 ((zrf zM (k0) 39)))]) (st1 := [.int (x19), .ref (g.2.2 ((zrf zM (k0) 39)))]) X hH (c_X10_lowest (l := l) (g := g) (w := s10.2) (k0 := k0) (v_k := s7.1) h19 hk0) (Or.inl tw_7_78) ms_X10_lowest im_X10_lowest hk0 cn_10 ⟨Nat.le_of_ble_eq_true rfl, Nat.le_of_ble_eq_true rfl⟩ rfl rfl hl.1 (Nat.le_of_ble_eq_true rfl) dX10_condensedEdgeCount_76 ⟨Nat.le_refl _, Nat.le_refl _⟩ rfl (fun H locs hH => ?_)
                  refine lv_dup2_11 hx hb dX10_condensedEdgeCount_79 rfl rfl ?_
                  obtain ⟨x20, h20, hF⟩ := ob hF
                  refine w_lald X hH h20 (rt_M_10_39 hk0) dX10_condensedEdgeCount_80 ?_
                  refine lv_lconst (v := 1) hx hb dX10_condensedEdgeCount_81 (by decide) ?_
                  refine lv_aload_n hx hb dX10_condensedEdgeCount_82 rfl (lv_at hl 0 rfl) ?_
                  refine lv_iload_n hx hb dX10_condensedEdgeCount_83 rfl (lv_at hl 3 rfl) ?_
                  obtain ⟨x21, h21, hF⟩ := ob hF
                  refine w_callV (As := [.int (s10.1)]) (k := k0) (rest := [.long ((1 : Int64)), .long (x20), .int (x19), .ref (g.2.2 ((zrf zM (k0) 39)))]) (st1 := [.int (x21), .long ((1 : Int64)), .long (x20), .int (x19), .ref (g.2.2 ((zrf zM (k0) 39)))]) X hH (c_X10_lowest (l := l) (g := g) (w := s10.2) (k0 := k0) (v_k := s10.1) h21 hk0) (Or.inl tw_7_78) ms_X10_lowest im_X10_lowest hk0 cn_10 ⟨Nat.le_of_ble_eq_true rfl, Nat.le_of_ble_eq_true rfl⟩ rfl rfl hl.1 (Nat.le_of_ble_eq_true rfl) dX10_condensedEdgeCount_84 ⟨Nat.le_refl _, Nat.le_refl _⟩ rfl (fun H locs hH => ?_)
                  refine w_lshl hx hb dX10_condensedEdgeCount_87 ?_
                  refine lv_lor hx hb dX10_condensedEdgeCount_88 ?_
                  obtain ⟨w22, h22, hF⟩ := ob hF
                  refine w_last X hH h22 (rt_M_10_39 hk0) dX10_condensedEdgeCount_89 (fun H locs hH => ?_)
                  obtain rfl := se1 hF
                  exact Js13 _ _ _ hH (lv_sub hl [0, 1, 2, 3] rfl)
                have Jb14F : ¬ (b14 = true) → ∀ (H : Heap) (locs : List Loc), HW zM g s10.2 s.heap H locs → W p l e (rmd 4) s m args below meth c H locs 0 0 (MQ below (Qw zM g wz (some (.int (rz)))) args s 0 0 (zA zM g)) (F0 m 90 ls []) := by
                  intro hc H locs hH
                  replace hF := ifn hc hF
                  obtain rfl := se1 hF
                  exact Js13 _ _ _ hH (lv_sub hl [0, 1, 2, 3] rfl)
                have hF := hb14
                refine lv_aload_n hx hb dX10_condensedEdgeCount_48 rfl (lv_at hl 0 rfl) ?_
                refine w_getr X hH hk0 fs_10_37 lk_10_70 dX10_condensedEdgeCount_49 ?_
                refine lv_iload_n hx hb dX10_condensedEdgeCount_52 rfl (lv_at hl 2 rfl) ?_
                obtain ⟨x16, h16, hF⟩ := ob hF
                refine w_lald X hH h16 (rt_M_10_37 hk0) dX10_condensedEdgeCount_53 ?_
                refine lv_iload_n hx hb dX10_condensedEdgeCount_54 rfl (lv_at hl 3 rfl) ?_
                refine w_callS (As := [.long (x16), .int (s10.1)]) (rest := []) (st1 := [.int (bI ((f_X10_hasBit (x16) (s10.1))))]) X hH (c_X10_hasBit (l := l) (g := g) (w := s10.2) (v_set := x16) (v_k := s10.1) rfl) (Or.inl tw_7_47) ms_X10_hasBit tw_7_48 ⟨Nat.le_of_ble_eq_true rfl, Nat.le_of_ble_eq_true rfl⟩ rfl rfl hl.1 (Nat.le_of_ble_eq_true rfl) dX10_condensedEdgeCount_55 ⟨Nat.le_refl _, Nat.le_refl _⟩ rfl (fun H locs hH => ?_)
                refine w_b_f (tgt := 90) hx hb dX10_condensedEdgeCount_58 (by decide) (fun c15 => ?_) (fun c15 => ?_)
                · replace hF := ifn c15 hF
                  obtain rfl := se1 hF
                  exact Jb14F Bool.false_ne_true _ _ hH
                · replace hF := ifp c15 hF
                  refine lv_aload_n hx hb dX10_condensedEdgeCount_61 rfl (lv_at hl 0 rfl) ?_
                  refine lv_iload_n hx hb dX10_condensedEdgeCount_62 rfl (lv_at hl 2 rfl) ?_
                  refine lv_iload_n hx hb dX10_condensedEdgeCount_63 rfl (lv_at hl 3 rfl) ?_
                  obtain ⟨x18, h18, hF⟩ := ob hF
                  refine w_callV (As := [.int (s7.1), .int (s10.1)]) (k := k0) (rest := []) (st1 := [.int (bI (x18))]) X hH (c_X10_areTogether (l := l) (g := g) (w := s10.2) (k0 := k0) (v_a := s7.1) (v_b := s10.1) h18 hk0) (Or.inl tw_7_70) ms_X10_areTogether im_X10_areTogether hk0 cn_10 ⟨Nat.le_of_ble_eq_true rfl, Nat.le_of_ble_eq_true rfl⟩ rfl rfl hl.1 (Nat.le_of_ble_eq_true rfl) dX10_condensedEdgeCount_64 ⟨Nat.le_refl _, Nat.le_refl _⟩ rfl (fun H locs hH => ?_)
                  refine w_b_t (tgt := 90) hx hb dX10_condensedEdgeCount_67 (by decide) (fun c17 => ?_) (fun c17 => ?_)
                  · replace hF := ifp c17 hF
                    obtain rfl := se1 hF
                    exact Jb14F Bool.false_ne_true _ _ hH
                  · replace hF := ifn c17 hF
                    obtain rfl := se1 hF
                    exact Jb14T rfl _ _ hH
          exact Lr11 NF _ hLr11 _ _ _ hH (lv_sub hl [1, 2, 3, 0] rfl)
    exact Lr8 NF _ hLr8 _ _ _ hH (lv_sub hl [1, 2, 0] rfl)
  have Lr4 : ∀ (n : Nat) (s3 : Int32 × Wd), lp (b_X10_condensedEdgeCount_1 k0) n s3 = some r4 → ∀ (H : Heap) (locs : List Loc) (ls : Array Slot), HW zM g s3.2 s.heap H locs → lv_has ls 4 [(0, .ref (g.2.2 (k0))), (1, .int ((0 : Int32))), (2, .int (s3.1))] → W p l e (rmd 4) s m args below meth c H locs 0 0 (MQ below (Qw zM g wz (some (.int (rz)))) args s 0 0 (zA zM g)) (F0 m 13 ls []) := by
    intro n
    induction n with
    | zero => intro s3 hL; exact lp_0 hL
    | succ n ih =>
      intro s3 hL H locs ls hH hl
      obtain ⟨bb, hF, hL⟩ := lp_s hL
      unfold b_X10_condensedEdgeCount_1 at hF
      refine lv_iload_n hx hb dX10_condensedEdgeCount_13 rfl (lv_at hl 2 rfl) ?_
      refine lv_bipush (v := (56 : Int32)) hx hb dX10_condensedEdgeCount_14 (by decide) ?_
      refine w_ilt_f (tgt := 32) hx hb dX10_condensedEdgeCount_16 (by decide) (fun c5 => ?_) (fun c5 => ?_)
      · replace hF := ifn c5 hF
        obtain rfl := se1 hF
        subst hL
        exact Jr4 _ _ _ hH (lv_sub hl [0, 1] rfl)
      · replace hF := ifp c5 hF
        refine lv_aload_n hx hb dX10_condensedEdgeCount_19 rfl (lv_at hl 0 rfl) ?_
        refine w_getr X hH hk0 fs_10_39 lk_10_76 dX10_condensedEdgeCount_20 ?_
        refine lv_iload_n hx hb dX10_condensedEdgeCount_23 rfl (lv_at hl 2 rfl) ?_
        refine lv_lconst (v := 0) hx hb dX10_condensedEdgeCount_24 (by decide) ?_
        obtain ⟨w6, h6, hF⟩ := ob hF
        refine w_last X hH h6 (rt_M_10_39 hk0) dX10_condensedEdgeCount_25 (fun H locs hH => ?_)
        refine lv_iinc (v := (s3.1 + (1 : Int32))) (lv' := [(2, .int ((s3.1 + (1 : Int32)))), (0, .ref (g.2.2 (k0))), (1, .int ((0 : Int32)))]) hx hb dX10_condensedEdgeCount_26 hl (k := 2) rfl rfl (by decide) rfl (fun ls hl => ?_)
        refine lv_goto (tgt := 13) hx hb dX10_condensedEdgeCount_29 (by decide) ?_
        obtain rfl := se1 hF
        exact ih _ hL _ _ _ hH (lv_sub hl [1, 2, 0] rfl)
  exact Lr4 NF _ hLr4 _ _ _ hH (lv_sub hl [2, 1, 0] rfl)

theorem dX10_targets_0 : decode cX10_targets 0 = .ok (.aload_n 0, 1) := by decide +kernel
theorem dX10_targets_1 : decode cX10_targets 1 = .ok (.iload_n 1, 1) := by decide +kernel
theorem dX10_targets_2 : decode cX10_targets 2 = .ok (.invokevirtual 251, 3) := by decide +kernel
theorem dX10_targets_5 : decode cX10_targets 5 = .ok (.ifCond .eq 21, 3) := by decide +kernel
theorem dX10_targets_8 : decode cX10_targets 8 = .ok (.aload_n 0, 1) := by decide +kernel
theorem dX10_targets_9 : decode cX10_targets 9 = .ok (.getfield 55, 3) := by decide +kernel
theorem dX10_targets_12 : decode cX10_targets 12 = .ok (.aload_n 0, 1) := by decide +kernel
theorem dX10_targets_13 : decode cX10_targets 13 = .ok (.iload_n 1, 1) := by decide +kernel
theorem dX10_targets_14 : decode cX10_targets 14 = .ok (.invokevirtual 234, 3) := by decide +kernel
theorem dX10_targets_17 : decode cX10_targets 17 = .ok (.iaload, 1) := by decide +kernel
theorem dX10_targets_18 : decode cX10_targets 18 = .ok (.aload_n 0, 1) := by decide +kernel
theorem dX10_targets_19 : decode cX10_targets 19 = .ok (.invokevirtual 207, 3) := by decide +kernel
theorem dX10_targets_22 : decode cX10_targets 22 = .ok (.iand, 1) := by decide +kernel
theorem dX10_targets_23 : decode cX10_targets 23 = .ok (.goto 4, 3) := by decide +kernel
theorem dX10_targets_26 : decode cX10_targets 26 = .ok (.iconst 0, 1) := by decide +kernel
theorem dX10_targets_27 : decode cX10_targets 27 = .ok (.ireturn, 1) := by decide +kernel
set_option maxHeartbeats 4000000 in
set_option maxRecDepth 100000 in
theorem c_X10_targets {l : Launch} {g : Gh} {w : Wd} {k0 : Nat} {v_c : Int32} {rz : Int32} (hF : f_X10_targets w k0 v_c = some rz) (hk0 : zct zM k0 = 10) : Met l yX10_targets (Cond.code yX10_targets cX10_targets 2 (some .int) :: TT) (rmd 2) (Pcw zM g w [.ref (g.2.2 k0), .int (v_c)]) (Qw zM g w (some (.int (rz)))) 0 0 (zA zM g) := by
  refine mt_start (by decide) (Nat.le_of_ble_eq_true rfl) ?_
  intro p e s m args below meth c H locs ls X hr hl hH
  have hx := X.1
  have hb := X.2.1
  have hml := X.2.2.1
  have hown := X.2.2.2.1
  have ht := X.2.2.2.2.1
  have hl : lv_has ls 2 [(0, .ref (g.2.2 (k0))), (1, .int (v_c))] := hl
  unfold f_X10_targets at hF
  obtain ⟨x2, hx2, hF⟩ := ob hF
  have J1 : ∀ (H : Heap) (locs : List Loc), HW zM g w s.heap H locs → W p l e (rmd 2) s m args below meth c H locs 0 0 (MQ below (Qw zM g w (some (.int (rz)))) args s 0 0 (zA zM g)) (F0 m 27 ls [.int (x2)]) := by
    intro H locs hH
    obtain rfl := se1 hF
    exact w_iret X hH hr dX10_targets_27
  have hF := hx2
  refine lv_aload_n hx hb dX10_targets_0 rfl (lv_at hl 0 rfl) ?_
  refine lv_iload_n hx hb dX10_targets_1 rfl (lv_at hl 1 rfl) ?_
  obtain ⟨x3, h3, hF⟩ := ob hF
  refine w_callV (As := [.int (v_c)]) (k := k0) (rest := []) (st1 := [.int (bI (x3))]) X hH (c_X10_isEnabled (l := l) (g := g) (w := w) (k0 := k0) (v_c := v_c) h3 hk0) (Or.inl tw_5_37) ms_X10_isEnabled im_X10_isEnabled hk0 cn_10 ⟨Nat.le_of_ble_eq_true rfl, Nat.le_of_ble_eq_true rfl⟩ rfl rfl hl.1 (Nat.le_of_ble_eq_true rfl) dX10_targets_2 ⟨Nat.le_refl _, Nat.le_refl _⟩ rfl (fun H locs hH => ?_)
  refine w_b_f (tgt := 26) hx hb dX10_targets_5 (by decide) (fun c4 => ?_) (fun c4 => ?_)
  · replace hF := ifn c4 hF
    refine lv_iconst (v := (0 : Int32)) hx hb dX10_targets_26 (by decide) ?_
    obtain rfl := se1 hF
    exact J1 _ _ hH
  · replace hF := ifp c4 hF
    refine lv_aload_n hx hb dX10_targets_8 rfl (lv_at hl 0 rfl) ?_
    refine w_getr X hH hk0 fs_10_24 lk_10_55 dX10_targets_9 ?_
    refine lv_aload_n hx hb dX10_targets_12 rfl (lv_at hl 0 rfl) ?_
    refine lv_iload_n hx hb dX10_targets_13 rfl (lv_at hl 1 rfl) ?_
    obtain ⟨x5, h5, hF⟩ := ob hF
    refine w_callV (As := [.int (v_c)]) (k := k0) (rest := [.ref (g.2.2 ((zrf zM (k0) 24)))]) (st1 := [.int (x5), .ref (g.2.2 ((zrf zM (k0) 24)))]) X hH (c_X10_second (l := l) (g := g) (w := w) (k0 := k0) (v_c := v_c) h5 hk0) (Or.inl tw_5_56) ms_X10_second im_X10_second hk0 cn_10 ⟨Nat.le_of_ble_eq_true rfl, Nat.le_of_ble_eq_true rfl⟩ rfl rfl hl.1 (Nat.le_of_ble_eq_true rfl) dX10_targets_14 ⟨Nat.le_refl _, Nat.le_refl _⟩ rfl (fun H locs hH => ?_)
    obtain ⟨x6, h6, hF⟩ := ob hF
    refine w_iald X hH h6 (rt_M_10_24 hk0) dX10_targets_17 ?_
    refine lv_aload_n hx hb dX10_targets_18 rfl (lv_at hl 0 rfl) ?_
    obtain ⟨x7, h7, hF⟩ := ob hF
    refine w_callV (As := []) (k := k0) (rest := [.int (x6)]) (st1 := [.int (x7), .int (x6)]) X hH (c_X10_functionSet (l := l) (g := g) (w := w) (k0 := k0) h7 hk0) (Or.inl tw_6_124) ms_X10_functionSet im_X10_functionSet hk0 cn_10 ⟨Nat.le_of_ble_eq_true rfl, Nat.le_of_ble_eq_true rfl⟩ rfl rfl hl.1 (Nat.le_of_ble_eq_true rfl) dX10_targets_19 ⟨Nat.le_refl _, Nat.le_refl _⟩ rfl (fun H locs hH => ?_)
    refine lv_iand hx hb dX10_targets_22 ?_
    refine lv_goto (tgt := 27) hx hb dX10_targets_23 (by decide) ?_
    obtain rfl := se1 hF
    exact J1 _ _ hH

theorem dX10_callTargets_0 : decode cX10_callTargets 0 = .ok (.aload_n 0, 1) := by decide +kernel
theorem dX10_callTargets_1 : decode cX10_callTargets 1 = .ok (.iconst 0, 1) := by decide +kernel
theorem dX10_callTargets_2 : decode cX10_callTargets 2 = .ok (.putfield 85, 3) := by decide +kernel
theorem dX10_callTargets_5 : decode cX10_callTargets 5 = .ok (.aload_n 0, 1) := by decide +kernel
theorem dX10_callTargets_6 : decode cX10_callTargets 6 = .ok (.iload_n 1, 1) := by decide +kernel
theorem dX10_callTargets_7 : decode cX10_callTargets 7 = .ok (.invokevirtual 214, 3) := by decide +kernel
theorem dX10_callTargets_10 : decode cX10_callTargets 10 = .ok (.ifCond .eq 20, 3) := by decide +kernel
theorem dX10_callTargets_13 : decode cX10_callTargets 13 = .ok (.aload_n 0, 1) := by decide +kernel
theorem dX10_callTargets_14 : decode cX10_callTargets 14 = .ok (.iload_n 1, 1) := by decide +kernel
theorem dX10_callTargets_15 : decode cX10_callTargets 15 = .ok (.invokevirtual 217, 3) := by decide +kernel
theorem dX10_callTargets_18 : decode cX10_callTargets 18 = .ok (.iconst 4, 1) := by decide +kernel
theorem dX10_callTargets_19 : decode cX10_callTargets 19 = .ok (.if_icmp .ne 11, 3) := by decide +kernel
theorem dX10_callTargets_22 : decode cX10_callTargets 22 = .ok (.aload_n 0, 1) := by decide +kernel
theorem dX10_callTargets_23 : decode cX10_callTargets 23 = .ok (.iload_n 1, 1) := by decide +kernel
theorem dX10_callTargets_24 : decode cX10_callTargets 24 = .ok (.invokevirtual 354, 3) := by decide +kernel
theorem dX10_callTargets_27 : decode cX10_callTargets 27 = .ok (.goto 4, 3) := by decide +kernel
theorem dX10_callTargets_30 : decode cX10_callTargets 30 = .ok (.iconst (-1), 1) := by decide +kernel
theorem dX10_callTargets_31 : decode cX10_callTargets 31 = .ok (.ireturn, 1) := by decide +kernel
set_option maxHeartbeats 4000000 in
set_option maxRecDepth 100000 in
theorem c_X10_callTargets {l : Launch} {g : Gh} {w : Wd} {k0 : Nat} {v_c : Int32} {rz : Int32} {wz : Wd} (hF : f_X10_callTargets w k0 v_c = some (rz, wz)) (hk0 : zct zM k0 = 10) : Met l yX10_callTargets (Cond.code yX10_callTargets cX10_callTargets 2 (some .int) :: TT) (rmd 3) (Pcw zM g w [.ref (g.2.2 k0), .int (v_c)]) (Qw zM g wz (some (.int (rz)))) 0 0 (zA zM g) := by
  refine mt_start (by decide) (Nat.le_of_ble_eq_true rfl) ?_
  intro p e s m args below meth c H locs ls X hr hl hH
  have hx := X.1
  have hb := X.2.1
  have hml := X.2.2.1
  have hown := X.2.2.2.1
  have ht := X.2.2.2.2.1
  have hl : lv_has ls 2 [(0, .ref (g.2.2 (k0))), (1, .int (v_c))] := hl
  unfold f_X10_callTargets at hF
  refine lv_aload_n hx hb dX10_callTargets_0 rfl (lv_at hl 0 rfl) ?_
  refine lv_iconst (v := (0 : Int32)) hx hb dX10_callTargets_1 (by decide) ?_
  obtain ⟨w1, h1, hF⟩ := ob hF
  refine w_puti X hH h1 hk0 fs_10_0 nf_10_0 lk_10_85 dX10_callTargets_2 (fun H locs hH => ?_)
  obtain ⟨x3, hx3, hF⟩ := ob hF
  have J2 : ∀ (H : Heap) (locs : List Loc), HW zM g w1 s.heap H locs → W p l e (rmd 3) s m args below meth c H locs 0 0 (MQ below (Qw zM g wz (some (.int (rz)))) args s 0 0 (zA zM g)) (F0 m 31 ls [.int (x3)]) := by
    intro H locs hH
    obtain ⟨rfl, rfl⟩ := se2 hF
    exact w_iret X hH hr dX10_callTargets_31
  have hF := hx3
  obtain ⟨b4, hb4, hF⟩ := ob hF
  have Jb4T : b4 = true → ∀ (H : Heap) (locs : List Loc), HW zM g w1 s.heap H locs → W p l e (rmd 3) s m args below meth c H locs 0 0 (MQ below (Qw zM g wz (some (.int (rz)))) args s 0 0 (zA zM g)) (F0 m 22 ls []) := by
    intro hc H locs hH
    replace hF := ifp hc hF
    refine lv_aload_n hx hb dX10_callTargets_22 rfl (lv_at hl 0 rfl) ?_
    refine lv_iload_n hx hb dX10_callTargets_23 rfl (lv_at hl 1 rfl) ?_
    obtain ⟨x9, h9, hF⟩ := ob hF
    refine w_callV (As := [.int (v_c)]) (k := k0) (rest := []) (st1 := [.int (x9)]) X hH (c_X10_targets (l := l) (g := g) (w := w1) (k0 := k0) (v_c := v_c) h9 hk0) (Or.inl tw_7_102) ms_X10_targets im_X10_targets hk0 cn_10 ⟨Nat.le_of_ble_eq_true rfl, Nat.le_of_ble_eq_true rfl⟩ rfl rfl hl.1 (Nat.le_of_ble_eq_true rfl) dX10_callTargets_24 ⟨Nat.le_refl _, Nat.le_refl _⟩ rfl (fun H locs hH => ?_)
    refine lv_goto (tgt := 31) hx hb dX10_callTargets_27 (by decide) ?_
    obtain rfl := se1 hF
    exact J2 _ _ hH
  have Jb4F : ¬ (b4 = true) → ∀ (H : Heap) (locs : List Loc), HW zM g w1 s.heap H locs → W p l e (rmd 3) s m args below meth c H locs 0 0 (MQ below (Qw zM g wz (some (.int (rz)))) args s 0 0 (zA zM g)) (F0 m 30 ls []) := by
    intro hc H locs hH
    replace hF := ifn hc hF
    refine lv_iconst (v := (-1 : Int32)) hx hb dX10_callTargets_30 (by decide) ?_
    obtain rfl := se1 hF
    exact J2 _ _ hH
  have hF := hb4
  refine lv_aload_n hx hb dX10_callTargets_5 rfl (lv_at hl 0 rfl) ?_
  refine lv_iload_n hx hb dX10_callTargets_6 rfl (lv_at hl 1 rfl) ?_
  obtain ⟨x6, h6, hF⟩ := ob hF
  refine w_callV (As := [.int (v_c)]) (k := k0) (rest := []) (st1 := [.int (bI (x6))]) X hH (c_X10_isConstraint (l := l) (g := g) (w := w1) (k0 := k0) (v_c := v_c) h6 hk0) (Or.inl tw_6_132) ms_X10_isConstraint im_X10_isConstraint hk0 cn_10 ⟨Nat.le_of_ble_eq_true rfl, Nat.le_of_ble_eq_true rfl⟩ rfl rfl hl.1 (Nat.le_of_ble_eq_true rfl) dX10_callTargets_7 ⟨Nat.le_refl _, Nat.le_refl _⟩ rfl (fun H locs hH => ?_)
  refine w_b_f (tgt := 30) hx hb dX10_callTargets_10 (by decide) (fun c5 => ?_) (fun c5 => ?_)
  · replace hF := ifn c5 hF
    obtain rfl := se1 hF
    exact Jb4F Bool.false_ne_true _ _ hH
  · replace hF := ifp c5 hF
    refine lv_aload_n hx hb dX10_callTargets_13 rfl (lv_at hl 0 rfl) ?_
    refine lv_iload_n hx hb dX10_callTargets_14 rfl (lv_at hl 1 rfl) ?_
    obtain ⟨x8, h8, hF⟩ := ob hF
    refine w_callV (As := [.int (v_c)]) (k := k0) (rest := []) (st1 := [.int (x8)]) X hH (c_X10_kind (l := l) (g := g) (w := w1) (k0 := k0) (v_c := v_c) h8 hk0) (Or.inl tw_5_48) ms_X10_kind im_X10_kind hk0 cn_10 ⟨Nat.le_of_ble_eq_true rfl, Nat.le_of_ble_eq_true rfl⟩ rfl rfl hl.1 (Nat.le_of_ble_eq_true rfl) dX10_callTargets_15 ⟨Nat.le_refl _, Nat.le_refl _⟩ rfl (fun H locs hH => ?_)
    refine lv_iconst (v := (4 : Int32)) hx hb dX10_callTargets_18 (by decide) ?_
    refine w_ieq_f (tgt := 30) hx hb dX10_callTargets_19 (by decide) (fun c7 => ?_) (fun c7 => ?_)
    · replace hF := ifn c7 hF
      obtain rfl := se1 hF
      exact Jb4F Bool.false_ne_true _ _ hH
    · replace hF := ifp c7 hF
      obtain rfl := se1 hF
      exact Jb4T rfl _ _ hH

theorem dX10_callersOf_0 : decode cX10_callersOf 0 = .ok (.aload_n 0, 1) := by decide +kernel
theorem dX10_callersOf_1 : decode cX10_callersOf 1 = .ok (.iconst 0, 1) := by decide +kernel
theorem dX10_callersOf_2 : decode cX10_callersOf 2 = .ok (.putfield 85, 3) := by decide +kernel
theorem dX10_callersOf_5 : decode cX10_callersOf 5 = .ok (.aload_n 0, 1) := by decide +kernel
theorem dX10_callersOf_6 : decode cX10_callersOf 6 = .ok (.iload_n 1, 1) := by decide +kernel
theorem dX10_callersOf_7 : decode cX10_callersOf 7 = .ok (.invokevirtual 222, 3) := by decide +kernel
theorem dX10_callersOf_10 : decode cX10_callersOf 10 = .ok (.ifCond .ne 5, 3) := by decide +kernel
theorem dX10_callersOf_13 : decode cX10_callersOf 13 = .ok (.iconst (-1), 1) := by decide +kernel
theorem dX10_callersOf_14 : decode cX10_callersOf 14 = .ok (.ireturn, 1) := by decide +kernel
theorem dX10_callersOf_15 : decode cX10_callersOf 15 = .ok (.iconst 0, 1) := by decide +kernel
theorem dX10_callersOf_16 : decode cX10_callersOf 16 = .ok (.istore_n 2, 1) := by decide +kernel
theorem dX10_callersOf_17 : decode cX10_callersOf 17 = .ok (.iconst 0, 1) := by decide +kernel
theorem dX10_callersOf_18 : decode cX10_callersOf 18 = .ok (.istore_n 3, 1) := by decide +kernel
theorem dX10_callersOf_19 : decode cX10_callersOf 19 = .ok (.iload_n 3, 1) := by decide +kernel
theorem dX10_callersOf_20 : decode cX10_callersOf 20 = .ok (.aload_n 0, 1) := by decide +kernel
theorem dX10_callersOf_21 : decode cX10_callersOf 21 = .ok (.getfield 39, 3) := by decide +kernel
theorem dX10_callersOf_24 : decode cX10_callersOf 24 = .ok (.iconst 0, 1) := by decide +kernel
theorem dX10_callersOf_25 : decode cX10_callersOf 25 = .ok (.iaload, 1) := by decide +kernel
theorem dX10_callersOf_26 : decode cX10_callersOf 26 = .ok (.if_icmp .ge 40, 3) := by decide +kernel
theorem dX10_callersOf_29 : decode cX10_callersOf 29 = .ok (.iload_n 2, 1) := by decide +kernel
theorem dX10_callersOf_30 : decode cX10_callersOf 30 = .ok (.aload_n 0, 1) := by decide +kernel
theorem dX10_callersOf_31 : decode cX10_callersOf 31 = .ok (.iload_n 3, 1) := by decide +kernel
theorem dX10_callersOf_32 : decode cX10_callersOf 32 = .ok (.invokevirtual 217, 3) := by decide +kernel
theorem dX10_callersOf_35 : decode cX10_callersOf 35 = .ok (.iconst 4, 1) := by decide +kernel
theorem dX10_callersOf_36 : decode cX10_callersOf 36 = .ok (.if_icmp .ne 21, 3) := by decide +kernel
theorem dX10_callersOf_39 : decode cX10_callersOf 39 = .ok (.aload_n 0, 1) := by decide +kernel
theorem dX10_callersOf_40 : decode cX10_callersOf 40 = .ok (.iload_n 3, 1) := by decide +kernel
theorem dX10_callersOf_41 : decode cX10_callersOf 41 = .ok (.invokevirtual 354, 3) := by decide +kernel
theorem dX10_callersOf_44 : decode cX10_callersOf 44 = .ok (.iload_n 1, 1) := by decide +kernel
theorem dX10_callersOf_45 : decode cX10_callersOf 45 = .ok (.invokestatic 210, 3) := by decide +kernel
theorem dX10_callersOf_48 : decode cX10_callersOf 48 = .ok (.ifCond .eq 9, 3) := by decide +kernel
theorem dX10_callersOf_51 : decode cX10_callersOf 51 = .ok (.iconst 1, 1) := by decide +kernel
theorem dX10_callersOf_52 : decode cX10_callersOf 52 = .ok (.iload_n 3, 1) := by decide +kernel
theorem dX10_callersOf_53 : decode cX10_callersOf 53 = .ok (.ishl, 1) := by decide +kernel
theorem dX10_callersOf_54 : decode cX10_callersOf 54 = .ok (.goto 4, 3) := by decide +kernel
theorem dX10_callersOf_57 : decode cX10_callersOf 57 = .ok (.iconst 0, 1) := by decide +kernel
theorem dX10_callersOf_58 : decode cX10_callersOf 58 = .ok (.ior, 1) := by decide +kernel
theorem dX10_callersOf_59 : decode cX10_callersOf 59 = .ok (.istore_n 2, 1) := by decide +kernel
theorem dX10_callersOf_60 : decode cX10_callersOf 60 = .ok (.iinc 3 1, 3) := by decide +kernel
theorem dX10_callersOf_63 : decode cX10_callersOf 63 = .ok (.goto (-44), 3) := by decide +kernel
theorem dX10_callersOf_66 : decode cX10_callersOf 66 = .ok (.iload_n 2, 1) := by decide +kernel
theorem dX10_callersOf_67 : decode cX10_callersOf 67 = .ok (.ireturn, 1) := by decide +kernel
set_option maxHeartbeats 4000000 in
set_option maxRecDepth 100000 in
theorem c_X10_callersOf {l : Launch} {g : Gh} {w : Wd} {k0 : Nat} {v_o : Int32} {rz : Int32} {wz : Wd} (hF : f_X10_callersOf w k0 v_o = some (rz, wz)) (hk0 : zct zM k0 = 10) : Met l yX10_callersOf (Cond.code yX10_callersOf cX10_callersOf 4 (some .int) :: TT) (rmd 3) (Pcw zM g w [.ref (g.2.2 k0), .int (v_o)]) (Qw zM g wz (some (.int (rz)))) 0 0 (zA zM g) := by
  refine mt_start (by decide) (Nat.le_of_ble_eq_true rfl) ?_
  intro p e s m args below meth c H locs ls X hr hl hH
  have hx := X.1
  have hb := X.2.1
  have hml := X.2.2.1
  have hown := X.2.2.2.1
  have ht := X.2.2.2.2.1
  have hl : lv_has ls 4 [(0, .ref (g.2.2 (k0))), (1, .int (v_o))] := hl
  unfold f_X10_callersOf at hF
  refine lv_aload_n hx hb dX10_callersOf_0 rfl (lv_at hl 0 rfl) ?_
  refine lv_iconst (v := (0 : Int32)) hx hb dX10_callersOf_1 (by decide) ?_
  obtain ⟨w1, h1, hF⟩ := ob hF
  refine w_puti X hH h1 hk0 fs_10_0 nf_10_0 lk_10_85 dX10_callersOf_2 (fun H locs hH => ?_)
  refine lv_aload_n hx hb dX10_callersOf_5 rfl (lv_at hl 0 rfl) ?_
  refine lv_iload_n hx hb dX10_callersOf_6 rfl (lv_at hl 1 rfl) ?_
  obtain ⟨x2, h2, hF⟩ := ob hF
  refine w_callV (As := [.int (v_o)]) (k := k0) (rest := []) (st1 := [.int (bI (x2))]) X hH (c_X10_isObject (l := l) (g := g) (w := w1) (k0 := k0) (v_o := v_o) h2 hk0) (Or.inl tw_6_145) ms_X10_isObject im_X10_isObject hk0 cn_10 ⟨Nat.le_of_ble_eq_true rfl, Nat.le_of_ble_eq_true rfl⟩ rfl rfl hl.1 (Nat.le_of_ble_eq_true rfl) dX10_callersOf_7 ⟨Nat.le_refl _, Nat.le_refl _⟩ rfl (fun H locs hH => ?_)
  refine w_b_t (tgt := 15) hx hb dX10_callersOf_10 (by decide) (fun c3 => ?_) (fun c3 => ?_)
  · replace hF := ifn (fun z => z c3) hF
    refine lv_iconst (v := (0 : Int32)) hx hb dX10_callersOf_15 (by decide) ?_
    refine lv_istore_n (lv' := [(2, .int ((0 : Int32))), (0, .ref (g.2.2 (k0))), (1, .int (v_o))]) hx hb dX10_callersOf_16 rfl hl (by decide) rfl (fun ls hl => ?_)
    refine lv_iconst (v := (0 : Int32)) hx hb dX10_callersOf_17 (by decide) ?_
    refine lv_istore_n (lv' := [(3, .int ((0 : Int32))), (2, .int ((0 : Int32))), (0, .ref (g.2.2 (k0))), (1, .int (v_o))]) hx hb dX10_callersOf_18 rfl hl (by decide) rfl (fun ls hl => ?_)
    obtain ⟨r5, hLr5, hF⟩ := ob hF
    have Jr5 : ∀ (H : Heap) (locs : List Loc) (ls : Array Slot), HW zM g w1 s.heap H locs → lv_has ls 4 [(0, .ref (g.2.2 (k0))), (1, .int (v_o)), (2, .int (r5))] → W p l e (rmd 3) s m args below meth c H locs 0 0 (MQ below (Qw zM g wz (some (.int (rz)))) args s 0 0 (zA zM g)) (F0 m 66 ls []) := by
      intro H locs ls hH hl
      refine lv_iload_n hx hb dX10_callersOf_66 rfl (lv_at hl 2 rfl) ?_
      obtain ⟨rfl, rfl⟩ := se2 hF
      exact w_iret X hH hr dX10_callersOf_67
    have Lr5 : ∀ (n : Nat) (s4 : Int32 × Int32), lp (b_X10_callersOf_1 w1 k0 v_o) n s4 = some r5 → ∀ (H : Heap) (locs : List Loc) (ls : Array Slot), HW zM g w1 s.heap H locs → lv_has ls 4 [(0, .ref (g.2.2 (k0))), (1, .int (v_o)), (2, .int (s4.1)), (3, .int (s4.2))] → W p l e (rmd 3) s m args below meth c H locs 0 0 (MQ below (Qw zM g wz (some (.int (rz)))) args s 0 0 (zA zM g)) (F0 m 19 ls []) := by
      intro n
      induction n with
      | zero => intro s4 hL; exact lp_0 hL
      | succ n ih =>
        intro s4 hL H locs ls hH hl
        obtain ⟨bb, hF, hL⟩ := lp_s hL
        unfold b_X10_callersOf_1 at hF
        refine lv_iload_n hx hb dX10_callersOf_19 rfl (lv_at hl 3 rfl) ?_
        refine lv_aload_n hx hb dX10_callersOf_20 rfl (lv_at hl 0 rfl) ?_
        refine w_getr X hH hk0 fs_10_18 lk_10_39 dX10_callersOf_21 ?_
        refine lv_iconst (v := (0 : Int32)) hx hb dX10_callersOf_24 (by decide) ?_
        obtain ⟨x6, h6, hF⟩ := ob hF
        refine w_iald X hH h6 (rt_M_10_18 hk0) dX10_callersOf_25 ?_
        refine w_ilt_f (tgt := 66) hx hb dX10_callersOf_26 (by decide) (fun c7 => ?_) (fun c7 => ?_)
        · replace hF := ifn c7 hF
          obtain rfl := se1 hF
          subst hL
          exact Jr5 _ _ _ hH (lv_sub hl [0, 1, 2] rfl)
        · replace hF := ifp c7 hF
          refine lv_iload_n hx hb dX10_callersOf_29 rfl (lv_at hl 2 rfl) ?_
          obtain ⟨x9, hx9, hF⟩ := ob hF
          have J8 : ∀ (H : Heap) (locs : List Loc), HW zM g w1 s.heap H locs → W p l e (rmd 3) s m args below meth c H locs 0 0 (MQ below (Qw zM g wz (some (.int (rz)))) args s 0 0 (zA zM g)) (F0 m 58 ls [.int (x9), .int (s4.1)]) := by
            intro H locs hH
            refine lv_ior hx hb dX10_callersOf_58 ?_
            refine lv_istore_n (lv' := [(2, .int ((s4.1 ||| x9))), (0, .ref (g.2.2 (k0))), (1, .int (v_o)), (3, .int (s4.2))]) hx hb dX10_callersOf_59 rfl hl (by decide) rfl (fun ls hl => ?_)
            refine lv_iinc (v := (s4.2 + (1 : Int32))) (lv' := [(3, .int ((s4.2 + (1 : Int32)))), (2, .int ((s4.1 ||| x9))), (0, .ref (g.2.2 (k0))), (1, .int (v_o))]) hx hb dX10_callersOf_60 hl (k := 3) rfl rfl (by decide) rfl (fun ls hl => ?_)
            refine lv_goto (tgt := 19) hx hb dX10_callersOf_63 (by decide) ?_
            obtain rfl := se1 hF
            exact ih _ hL _ _ _ hH (lv_sub hl [2, 3, 1, 0] rfl)
          have hF := hx9
          obtain ⟨b10, hb10, hF⟩ := ob hF
          have Jb10T : b10 = true → ∀ (H : Heap) (locs : List Loc), HW zM g w1 s.heap H locs → W p l e (rmd 3) s m args below meth c H locs 0 0 (MQ below (Qw zM g wz (some (.int (rz)))) args s 0 0 (zA zM g)) (F0 m 51 ls [.int (s4.1)]) := by
            intro hc H locs hH
            replace hF := ifp hc hF
            refine lv_iconst (v := (1 : Int32)) hx hb dX10_callersOf_51 (by decide) ?_
            refine lv_iload_n hx hb dX10_callersOf_52 rfl (lv_at hl 3 rfl) ?_
            refine w_ishl hx hb dX10_callersOf_53 ?_
            refine lv_goto (tgt := 58) hx hb dX10_callersOf_54 (by decide) ?_
            obtain rfl := se1 hF
            exact J8 _ _ hH
          have Jb10F : ¬ (b10 = true) → ∀ (H : Heap) (locs : List Loc), HW zM g w1 s.heap H locs → W p l e (rmd 3) s m args below meth c H locs 0 0 (MQ below (Qw zM g wz (some (.int (rz)))) args s 0 0 (zA zM g)) (F0 m 57 ls [.int (s4.1)]) := by
            intro hc H locs hH
            replace hF := ifn hc hF
            refine lv_iconst (v := (0 : Int32)) hx hb dX10_callersOf_57 (by decide) ?_
            obtain rfl := se1 hF
            exact J8 _ _ hH
          have hF := hb10
          refine lv_aload_n hx hb dX10_callersOf_30 rfl (lv_at hl 0 rfl) ?_
          refine lv_iload_n hx hb dX10_callersOf_31 rfl (lv_at hl 3 rfl) ?_
          obtain ⟨x12, h12, hF⟩ := ob hF
          refine w_callV (As := [.int (s4.2)]) (k := k0) (rest := [.int (s4.1)]) (st1 := [.int (x12), .int (s4.1)]) X hH (c_X10_kind (l := l) (g := g) (w := w1) (k0 := k0) (v_c := s4.2) h12 hk0) (Or.inl tw_5_48) ms_X10_kind im_X10_kind hk0 cn_10 ⟨Nat.le_of_ble_eq_true rfl, Nat.le_of_ble_eq_true rfl⟩ rfl rfl hl.1 (Nat.le_of_ble_eq_true rfl) dX10_callersOf_32 ⟨Nat.le_refl _, Nat.le_refl _⟩ rfl (fun H locs hH => ?_)
          refine lv_iconst (v := (4 : Int32)) hx hb dX10_callersOf_35 (by decide) ?_
          refine w_ieq_f (tgt := 57) hx hb dX10_callersOf_36 (by decide) (fun c11 => ?_) (fun c11 => ?_)
          · replace hF := ifn c11 hF
            obtain rfl := se1 hF
            exact Jb10F Bool.false_ne_true _ _ hH
          · replace hF := ifp c11 hF
            refine lv_aload_n hx hb dX10_callersOf_39 rfl (lv_at hl 0 rfl) ?_
            refine lv_iload_n hx hb dX10_callersOf_40 rfl (lv_at hl 3 rfl) ?_
            obtain ⟨x14, h14, hF⟩ := ob hF
            refine w_callV (As := [.int (s4.2)]) (k := k0) (rest := [.int (s4.1)]) (st1 := [.int (x14), .int (s4.1)]) X hH (c_X10_targets (l := l) (g := g) (w := w1) (k0 := k0) (v_c := s4.2) h14 hk0) (Or.inl tw_7_102) ms_X10_targets im_X10_targets hk0 cn_10 ⟨Nat.le_of_ble_eq_true rfl, Nat.le_of_ble_eq_true rfl⟩ rfl rfl hl.1 (Nat.le_of_ble_eq_true rfl) dX10_callersOf_41 ⟨Nat.le_refl _, Nat.le_refl _⟩ rfl (fun H locs hH => ?_)
            refine lv_iload_n hx hb dX10_callersOf_44 rfl (lv_at hl 1 rfl) ?_
            refine w_callS (As := [.int (x14), .int (v_o)]) (rest := [.int (s4.1)]) (st1 := [.int (bI ((f_X10_has (x14) (v_o)))), .int (s4.1)]) X hH (c_X10_has (l := l) (g := g) (w := w1) (v_set := x14) (v_k := v_o) rfl) (Or.inl tw_5_41) ms_X10_has tw_5_42 ⟨Nat.le_of_ble_eq_true rfl, Nat.le_of_ble_eq_true rfl⟩ rfl rfl hl.1 (Nat.le_of_ble_eq_true rfl) dX10_callersOf_45 ⟨Nat.le_refl _, Nat.le_refl _⟩ rfl (fun H locs hH => ?_)
            refine w_b_f (tgt := 57) hx hb dX10_callersOf_48 (by decide) (fun c13 => ?_) (fun c13 => ?_)
            · replace hF := ifn c13 hF
              obtain rfl := se1 hF
              exact Jb10F Bool.false_ne_true _ _ hH
            · replace hF := ifp c13 hF
              obtain rfl := se1 hF
              exact Jb10T rfl _ _ hH
    exact Lr5 NF _ hLr5 _ _ _ hH (lv_sub hl [2, 3, 1, 0] rfl)
  · replace hF := ifp c3 hF
    refine lv_iconst (v := (-1 : Int32)) hx hb dX10_callersOf_13 (by decide) ?_
    obtain ⟨rfl, rfl⟩ := se2 hF
    exact w_iret X hH hr dX10_callersOf_14

theorem dX10_uncalledFunctions_0 : decode cX10_uncalledFunctions 0 = .ok (.aload_n 0, 1) := by decide +kernel
theorem dX10_uncalledFunctions_1 : decode cX10_uncalledFunctions 1 = .ok (.iconst 0, 1) := by decide +kernel
theorem dX10_uncalledFunctions_2 : decode cX10_uncalledFunctions 2 = .ok (.putfield 85, 3) := by decide +kernel
theorem dX10_uncalledFunctions_5 : decode cX10_uncalledFunctions 5 = .ok (.aload_n 0, 1) := by decide +kernel
theorem dX10_uncalledFunctions_6 : decode cX10_uncalledFunctions 6 = .ok (.invokevirtual 207, 3) := by decide +kernel
theorem dX10_uncalledFunctions_9 : decode cX10_uncalledFunctions 9 = .ok (.istore_n 1, 1) := by decide +kernel
theorem dX10_uncalledFunctions_10 : decode cX10_uncalledFunctions 10 = .ok (.iconst 0, 1) := by decide +kernel
theorem dX10_uncalledFunctions_11 : decode cX10_uncalledFunctions 11 = .ok (.istore_n 2, 1) := by decide +kernel
theorem dX10_uncalledFunctions_12 : decode cX10_uncalledFunctions 12 = .ok (.iload_n 2, 1) := by decide +kernel
theorem dX10_uncalledFunctions_13 : decode cX10_uncalledFunctions 13 = .ok (.aload_n 0, 1) := by decide +kernel
theorem dX10_uncalledFunctions_14 : decode cX10_uncalledFunctions 14 = .ok (.getfield 39, 3) := by decide +kernel
theorem dX10_uncalledFunctions_17 : decode cX10_uncalledFunctions 17 = .ok (.iconst 0, 1) := by decide +kernel
theorem dX10_uncalledFunctions_18 : decode cX10_uncalledFunctions 18 = .ok (.iaload, 1) := by decide +kernel
theorem dX10_uncalledFunctions_19 : decode cX10_uncalledFunctions 19 = .ok (.if_icmp .ge 28, 3) := by decide +kernel
theorem dX10_uncalledFunctions_22 : decode cX10_uncalledFunctions 22 = .ok (.aload_n 0, 1) := by decide +kernel
theorem dX10_uncalledFunctions_23 : decode cX10_uncalledFunctions 23 = .ok (.iload_n 2, 1) := by decide +kernel
theorem dX10_uncalledFunctions_24 : decode cX10_uncalledFunctions 24 = .ok (.invokevirtual 217, 3) := by decide +kernel
theorem dX10_uncalledFunctions_27 : decode cX10_uncalledFunctions 27 = .ok (.iconst 4, 1) := by decide +kernel
theorem dX10_uncalledFunctions_28 : decode cX10_uncalledFunctions 28 = .ok (.if_icmp .ne 13, 3) := by decide +kernel
theorem dX10_uncalledFunctions_31 : decode cX10_uncalledFunctions 31 = .ok (.iload_n 1, 1) := by decide +kernel
theorem dX10_uncalledFunctions_32 : decode cX10_uncalledFunctions 32 = .ok (.aload_n 0, 1) := by decide +kernel
theorem dX10_uncalledFunctions_33 : decode cX10_uncalledFunctions 33 = .ok (.iload_n 2, 1) := by decide +kernel
theorem dX10_uncalledFunctions_34 : decode cX10_uncalledFunctions 34 = .ok (.invokevirtual 354, 3) := by decide +kernel
theorem dX10_uncalledFunctions_37 : decode cX10_uncalledFunctions 37 = .ok (.iconst (-1), 1) := by decide +kernel
theorem dX10_uncalledFunctions_38 : decode cX10_uncalledFunctions 38 = .ok (.ixor, 1) := by decide +kernel
theorem dX10_uncalledFunctions_39 : decode cX10_uncalledFunctions 39 = .ok (.iand, 1) := by decide +kernel
theorem dX10_uncalledFunctions_40 : decode cX10_uncalledFunctions 40 = .ok (.istore_n 1, 1) := by decide +kernel
theorem dX10_uncalledFunctions_41 : decode cX10_uncalledFunctions 41 = .ok (.iinc 2 1, 3) := by decide +kernel
theorem dX10_uncalledFunctions_44 : decode cX10_uncalledFunctions 44 = .ok (.goto (-32), 3) := by decide +kernel
theorem dX10_uncalledFunctions_47 : decode cX10_uncalledFunctions 47 = .ok (.iload_n 1, 1) := by decide +kernel
theorem dX10_uncalledFunctions_48 : decode cX10_uncalledFunctions 48 = .ok (.ireturn, 1) := by decide +kernel
set_option maxHeartbeats 4000000 in
set_option maxRecDepth 100000 in
theorem c_X10_uncalledFunctions {l : Launch} {g : Gh} {w : Wd} {k0 : Nat} {rz : Int32} {wz : Wd} (hF : f_X10_uncalledFunctions w k0 = some (rz, wz)) (hk0 : zct zM k0 = 10) : Met l yX10_uncalledFunctions (Cond.code yX10_uncalledFunctions cX10_uncalledFunctions 3 (some .int) :: TT) (rmd 3) (Pcw zM g w [.ref (g.2.2 k0)]) (Qw zM g wz (some (.int (rz)))) 0 0 (zA zM g) := by
  refine mt_start (by decide) (Nat.le_of_ble_eq_true rfl) ?_
  intro p e s m args below meth c H locs ls X hr hl hH
  have hx := X.1
  have hb := X.2.1
  have hml := X.2.2.1
  have hown := X.2.2.2.1
  have ht := X.2.2.2.2.1
  have hl : lv_has ls 3 [(0, .ref (g.2.2 (k0)))] := hl
  unfold f_X10_uncalledFunctions at hF
  refine lv_aload_n hx hb dX10_uncalledFunctions_0 rfl (lv_at hl 0 rfl) ?_
  refine lv_iconst (v := (0 : Int32)) hx hb dX10_uncalledFunctions_1 (by decide) ?_
  obtain ⟨w1, h1, hF⟩ := ob hF
  refine w_puti X hH h1 hk0 fs_10_0 nf_10_0 lk_10_85 dX10_uncalledFunctions_2 (fun H locs hH => ?_)
  refine lv_aload_n hx hb dX10_uncalledFunctions_5 rfl (lv_at hl 0 rfl) ?_
  obtain ⟨x2, h2, hF⟩ := ob hF
  refine w_callV (As := []) (k := k0) (rest := []) (st1 := [.int (x2)]) X hH (c_X10_functionSet (l := l) (g := g) (w := w1) (k0 := k0) h2 hk0) (Or.inl tw_6_124) ms_X10_functionSet im_X10_functionSet hk0 cn_10 ⟨Nat.le_of_ble_eq_true rfl, Nat.le_of_ble_eq_true rfl⟩ rfl rfl hl.1 (Nat.le_of_ble_eq_true rfl) dX10_uncalledFunctions_6 ⟨Nat.le_refl _, Nat.le_refl _⟩ rfl (fun H locs hH => ?_)
  refine lv_istore_n (lv' := [(1, .int (x2)), (0, .ref (g.2.2 (k0)))]) hx hb dX10_uncalledFunctions_9 rfl hl (by decide) rfl (fun ls hl => ?_)
  refine lv_iconst (v := (0 : Int32)) hx hb dX10_uncalledFunctions_10 (by decide) ?_
  refine lv_istore_n (lv' := [(2, .int ((0 : Int32))), (1, .int (x2)), (0, .ref (g.2.2 (k0)))]) hx hb dX10_uncalledFunctions_11 rfl hl (by decide) rfl (fun ls hl => ?_)
  obtain ⟨r4, hLr4, hF⟩ := ob hF
  have Jr4 : ∀ (H : Heap) (locs : List Loc) (ls : Array Slot), HW zM g w1 s.heap H locs → lv_has ls 3 [(0, .ref (g.2.2 (k0))), (1, .int (r4))] → W p l e (rmd 3) s m args below meth c H locs 0 0 (MQ below (Qw zM g wz (some (.int (rz)))) args s 0 0 (zA zM g)) (F0 m 47 ls []) := by
    intro H locs ls hH hl
    refine lv_iload_n hx hb dX10_uncalledFunctions_47 rfl (lv_at hl 1 rfl) ?_
    obtain ⟨rfl, rfl⟩ := se2 hF
    exact w_iret X hH hr dX10_uncalledFunctions_48
  have Lr4 : ∀ (n : Nat) (s3 : Int32 × Int32), lp (b_X10_uncalledFunctions_1 w1 k0) n s3 = some r4 → ∀ (H : Heap) (locs : List Loc) (ls : Array Slot), HW zM g w1 s.heap H locs → lv_has ls 3 [(0, .ref (g.2.2 (k0))), (1, .int (s3.1)), (2, .int (s3.2))] → W p l e (rmd 3) s m args below meth c H locs 0 0 (MQ below (Qw zM g wz (some (.int (rz)))) args s 0 0 (zA zM g)) (F0 m 12 ls []) := by
    intro n
    induction n with
    | zero => intro s3 hL; exact lp_0 hL
    | succ n ih =>
      intro s3 hL H locs ls hH hl
      obtain ⟨bb, hF, hL⟩ := lp_s hL
      unfold b_X10_uncalledFunctions_1 at hF
      refine lv_iload_n hx hb dX10_uncalledFunctions_12 rfl (lv_at hl 2 rfl) ?_
      refine lv_aload_n hx hb dX10_uncalledFunctions_13 rfl (lv_at hl 0 rfl) ?_
      refine w_getr X hH hk0 fs_10_18 lk_10_39 dX10_uncalledFunctions_14 ?_
      refine lv_iconst (v := (0 : Int32)) hx hb dX10_uncalledFunctions_17 (by decide) ?_
      obtain ⟨x5, h5, hF⟩ := ob hF
      refine w_iald X hH h5 (rt_M_10_18 hk0) dX10_uncalledFunctions_18 ?_
      refine w_ilt_f (tgt := 47) hx hb dX10_uncalledFunctions_19 (by decide) (fun c6 => ?_) (fun c6 => ?_)
      · replace hF := ifn c6 hF
        obtain rfl := se1 hF
        subst hL
        exact Jr4 _ _ _ hH (lv_sub hl [0, 1] rfl)
      · replace hF := ifp c6 hF
        obtain ⟨s7, hs7, hF⟩ := ob hF
        have Js7 : ∀ (H : Heap) (locs : List Loc) (ls : Array Slot), HW zM g w1 s.heap H locs → lv_has ls 3 [(0, .ref (g.2.2 (k0))), (1, .int (s7)), (2, .int (s3.2))] → W p l e (rmd 3) s m args below meth c H locs 0 0 (MQ below (Qw zM g wz (some (.int (rz)))) args s 0 0 (zA zM g)) (F0 m 41 ls []) := by
          intro H locs ls hH hl
          refine lv_iinc (v := (s3.2 + (1 : Int32))) (lv' := [(2, .int ((s3.2 + (1 : Int32)))), (0, .ref (g.2.2 (k0))), (1, .int (s7))]) hx hb dX10_uncalledFunctions_41 hl (k := 2) rfl rfl (by decide) rfl (fun ls hl => ?_)
          refine lv_goto (tgt := 12) hx hb dX10_uncalledFunctions_44 (by decide) ?_
          obtain rfl := se1 hF
          exact ih _ hL _ _ _ hH (lv_sub hl [1, 2, 0] rfl)
        have hF := hs7
        refine lv_aload_n hx hb dX10_uncalledFunctions_22 rfl (lv_at hl 0 rfl) ?_
        refine lv_iload_n hx hb dX10_uncalledFunctions_23 rfl (lv_at hl 2 rfl) ?_
        obtain ⟨x8, h8, hF⟩ := ob hF
        refine w_callV (As := [.int (s3.2)]) (k := k0) (rest := []) (st1 := [.int (x8)]) X hH (c_X10_kind (l := l) (g := g) (w := w1) (k0 := k0) (v_c := s3.2) h8 hk0) (Or.inl tw_5_48) ms_X10_kind im_X10_kind hk0 cn_10 ⟨Nat.le_of_ble_eq_true rfl, Nat.le_of_ble_eq_true rfl⟩ rfl rfl hl.1 (Nat.le_of_ble_eq_true rfl) dX10_uncalledFunctions_24 ⟨Nat.le_refl _, Nat.le_refl _⟩ rfl (fun H locs hH => ?_)
        refine lv_iconst (v := (4 : Int32)) hx hb dX10_uncalledFunctions_27 (by decide) ?_
        refine w_ieq_f (tgt := 41) hx hb dX10_uncalledFunctions_28 (by decide) (fun c9 => ?_) (fun c9 => ?_)
        · replace hF := ifn c9 hF
          obtain rfl := se1 hF
          exact Js7 _ _ _ hH (lv_sub hl [0, 1, 2] rfl)
        · replace hF := ifp c9 hF
          refine lv_iload_n hx hb dX10_uncalledFunctions_31 rfl (lv_at hl 1 rfl) ?_
          refine lv_aload_n hx hb dX10_uncalledFunctions_32 rfl (lv_at hl 0 rfl) ?_
          refine lv_iload_n hx hb dX10_uncalledFunctions_33 rfl (lv_at hl 2 rfl) ?_
          obtain ⟨x10, h10, hF⟩ := ob hF
          refine w_callV (As := [.int (s3.2)]) (k := k0) (rest := [.int (s3.1)]) (st1 := [.int (x10), .int (s3.1)]) X hH (c_X10_targets (l := l) (g := g) (w := w1) (k0 := k0) (v_c := s3.2) h10 hk0) (Or.inl tw_7_102) ms_X10_targets im_X10_targets hk0 cn_10 ⟨Nat.le_of_ble_eq_true rfl, Nat.le_of_ble_eq_true rfl⟩ rfl rfl hl.1 (Nat.le_of_ble_eq_true rfl) dX10_uncalledFunctions_34 ⟨Nat.le_refl _, Nat.le_refl _⟩ rfl (fun H locs hH => ?_)
          refine lv_iconst (v := (-1 : Int32)) hx hb dX10_uncalledFunctions_37 (by decide) ?_
          refine lv_ixor hx hb dX10_uncalledFunctions_38 ?_
          refine lv_iand hx hb dX10_uncalledFunctions_39 ?_
          refine lv_istore_n (lv' := [(1, .int ((s3.1 &&& (x10 ^^^ (-1 : Int32))))), (0, .ref (g.2.2 (k0))), (2, .int (s3.2))]) hx hb dX10_uncalledFunctions_40 rfl hl (by decide) rfl (fun ls hl => ?_)
          obtain rfl := se1 hF
          exact Js7 _ _ _ hH (lv_sub hl [1, 0, 2] rfl)
  exact Lr4 NF _ hLr4 _ _ _ hH (lv_sub hl [2, 1, 0] rfl)

theorem dX10_factCountIfToggled_0 : decode cX10_factCountIfToggled 0 = .ok (.aload_n 0, 1) := by decide +kernel
theorem dX10_factCountIfToggled_1 : decode cX10_factCountIfToggled 1 = .ok (.iconst 0, 1) := by decide +kernel
theorem dX10_factCountIfToggled_2 : decode cX10_factCountIfToggled 2 = .ok (.putfield 85, 3) := by decide +kernel
theorem dX10_factCountIfToggled_5 : decode cX10_factCountIfToggled 5 = .ok (.aload_n 0, 1) := by decide +kernel
theorem dX10_factCountIfToggled_6 : decode cX10_factCountIfToggled 6 = .ok (.iload_n 1, 1) := by decide +kernel
theorem dX10_factCountIfToggled_7 : decode cX10_factCountIfToggled 7 = .ok (.invokevirtual 214, 3) := by decide +kernel
theorem dX10_factCountIfToggled_10 : decode cX10_factCountIfToggled 10 = .ok (.ifCond .eq 20, 3) := by decide +kernel
theorem dX10_factCountIfToggled_13 : decode cX10_factCountIfToggled 13 = .ok (.aload_n 0, 1) := by decide +kernel
theorem dX10_factCountIfToggled_14 : decode cX10_factCountIfToggled 14 = .ok (.aload_n 0, 1) := by decide +kernel
theorem dX10_factCountIfToggled_15 : decode cX10_factCountIfToggled 15 = .ok (.getfield 39, 3) := by decide +kernel
theorem dX10_factCountIfToggled_18 : decode cX10_factCountIfToggled 18 = .ok (.iconst 1, 1) := by decide +kernel
theorem dX10_factCountIfToggled_19 : decode cX10_factCountIfToggled 19 = .ok (.iaload, 1) := by decide +kernel
theorem dX10_factCountIfToggled_20 : decode cX10_factCountIfToggled 20 = .ok (.iconst 1, 1) := by decide +kernel
theorem dX10_factCountIfToggled_21 : decode cX10_factCountIfToggled 21 = .ok (.iload_n 1, 1) := by decide +kernel
theorem dX10_factCountIfToggled_22 : decode cX10_factCountIfToggled 22 = .ok (.ishl, 1) := by decide +kernel
theorem dX10_factCountIfToggled_23 : decode cX10_factCountIfToggled 23 = .ok (.ixor, 1) := by decide +kernel
theorem dX10_factCountIfToggled_24 : decode cX10_factCountIfToggled 24 = .ok (.invokevirtual 357, 3) := by decide +kernel
theorem dX10_factCountIfToggled_27 : decode cX10_factCountIfToggled 27 = .ok (.goto 4, 3) := by decide +kernel
theorem dX10_factCountIfToggled_30 : decode cX10_factCountIfToggled 30 = .ok (.iconst (-1), 1) := by decide +kernel
theorem dX10_factCountIfToggled_31 : decode cX10_factCountIfToggled 31 = .ok (.ireturn, 1) := by decide +kernel
set_option maxHeartbeats 4000000 in
set_option maxRecDepth 100000 in
theorem c_X10_factCountIfToggled {l : Launch} {g : Gh} {w : Wd} {k0 : Nat} {v_c : Int32} {rz : Int32} {wz : Wd} (hF : f_X10_factCountIfToggled w k0 v_c = some (rz, wz)) (hk0 : zct zM k0 = 10) : Met l yX10_factCountIfToggled (Cond.code yX10_factCountIfToggled cX10_factCountIfToggled 2 (some .int) :: TT) (rmd 5) (Pcw zM g w [.ref (g.2.2 k0), .int (v_c)]) (Qw zM g wz (some (.int (rz)))) 0 0 (zA zM g) := by
  refine mt_start (by decide) (Nat.le_of_ble_eq_true rfl) ?_
  intro p e s m args below meth c H locs ls X hr hl hH
  have hx := X.1
  have hb := X.2.1
  have hml := X.2.2.1
  have hown := X.2.2.2.1
  have ht := X.2.2.2.2.1
  have hl : lv_has ls 2 [(0, .ref (g.2.2 (k0))), (1, .int (v_c))] := hl
  unfold f_X10_factCountIfToggled at hF
  refine lv_aload_n hx hb dX10_factCountIfToggled_0 rfl (lv_at hl 0 rfl) ?_
  refine lv_iconst (v := (0 : Int32)) hx hb dX10_factCountIfToggled_1 (by decide) ?_
  obtain ⟨w1, h1, hF⟩ := ob hF
  refine w_puti X hH h1 hk0 fs_10_0 nf_10_0 lk_10_85 dX10_factCountIfToggled_2 (fun H locs hH => ?_)
  obtain ⟨x3, hx3, hF⟩ := ob hF
  have J2 : ∀ (H : Heap) (locs : List Loc), HW zM g x3.2 s.heap H locs → W p l e (rmd 5) s m args below meth c H locs 0 0 (MQ below (Qw zM g wz (some (.int (rz)))) args s 0 0 (zA zM g)) (F0 m 31 ls [.int (x3.1)]) := by
    intro H locs hH
    obtain ⟨rfl, rfl⟩ := se2 hF
    exact w_iret X hH hr dX10_factCountIfToggled_31
  have hF := hx3
  refine lv_aload_n hx hb dX10_factCountIfToggled_5 rfl (lv_at hl 0 rfl) ?_
  refine lv_iload_n hx hb dX10_factCountIfToggled_6 rfl (lv_at hl 1 rfl) ?_
  obtain ⟨x4, h4, hF⟩ := ob hF
  refine w_callV (As := [.int (v_c)]) (k := k0) (rest := []) (st1 := [.int (bI (x4))]) X hH (c_X10_isConstraint (l := l) (g := g) (w := w1) (k0 := k0) (v_c := v_c) h4 hk0) (Or.inl tw_6_132) ms_X10_isConstraint im_X10_isConstraint hk0 cn_10 ⟨Nat.le_of_ble_eq_true rfl, Nat.le_of_ble_eq_true rfl⟩ rfl rfl hl.1 (Nat.le_of_ble_eq_true rfl) dX10_factCountIfToggled_7 ⟨Nat.le_refl _, Nat.le_refl _⟩ rfl (fun H locs hH => ?_)
  refine w_b_f (tgt := 30) hx hb dX10_factCountIfToggled_10 (by decide) (fun c5 => ?_) (fun c5 => ?_)
  · replace hF := ifn c5 hF
    refine lv_iconst (v := (-1 : Int32)) hx hb dX10_factCountIfToggled_30 (by decide) ?_
    obtain rfl := se1 hF
    exact J2 _ _ hH
  · replace hF := ifp c5 hF
    refine lv_aload_n hx hb dX10_factCountIfToggled_13 rfl (lv_at hl 0 rfl) ?_
    refine lv_aload_n hx hb dX10_factCountIfToggled_14 rfl (lv_at hl 0 rfl) ?_
    refine w_getr X hH hk0 fs_10_18 lk_10_39 dX10_factCountIfToggled_15 ?_
    refine lv_iconst (v := (1 : Int32)) hx hb dX10_factCountIfToggled_18 (by decide) ?_
    obtain ⟨x6, h6, hF⟩ := ob hF
    refine w_iald X hH h6 (rt_M_10_18 hk0) dX10_factCountIfToggled_19 ?_
    refine lv_iconst (v := (1 : Int32)) hx hb dX10_factCountIfToggled_20 (by decide) ?_
    refine lv_iload_n hx hb dX10_factCountIfToggled_21 rfl (lv_at hl 1 rfl) ?_
    refine w_ishl hx hb dX10_factCountIfToggled_22 ?_
    refine lv_ixor hx hb dX10_factCountIfToggled_23 ?_
    obtain ⟨x7, h7, hF⟩ := ob hF
    refine w_callV (As := [.int ((x6 ^^^ (jshl ((1 : Int32)) (v_c))))]) (k := k0) (rest := []) (st1 := [.int (x7.1)]) X hH (c_X10_factsWith (l := l) (g := g) (w := w1) (k0 := k0) (v_enabled := (x6 ^^^ (jshl ((1 : Int32)) (v_c)))) h7 hk0) (Or.inl tw_7_118) ms_X10_factsWith im_X10_factsWith hk0 cn_10 ⟨Nat.le_of_ble_eq_true rfl, Nat.le_of_ble_eq_true rfl⟩ rfl rfl hl.1 (Nat.le_of_ble_eq_true rfl) dX10_factCountIfToggled_24 ⟨Nat.le_refl _, Nat.le_refl _⟩ rfl (fun H locs hH => ?_)
    refine lv_goto (tgt := 31) hx hb dX10_factCountIfToggled_27 (by decide) ?_
    obtain rfl := se1 hF
    exact J2 _ _ hH

theorem dX10_factCountWithout_0 : decode cX10_factCountWithout 0 = .ok (.aload_n 0, 1) := by decide +kernel
theorem dX10_factCountWithout_1 : decode cX10_factCountWithout 1 = .ok (.iconst 0, 1) := by decide +kernel
theorem dX10_factCountWithout_2 : decode cX10_factCountWithout 2 = .ok (.putfield 85, 3) := by decide +kernel
theorem dX10_factCountWithout_5 : decode cX10_factCountWithout 5 = .ok (.iload_n 1, 1) := by decide +kernel
theorem dX10_factCountWithout_6 : decode cX10_factCountWithout 6 = .ok (.aload_n 0, 1) := by decide +kernel
theorem dX10_factCountWithout_7 : decode cX10_factCountWithout 7 = .ok (.getfield 39, 3) := by decide +kernel
theorem dX10_factCountWithout_10 : decode cX10_factCountWithout 10 = .ok (.iconst 0, 1) := by decide +kernel
theorem dX10_factCountWithout_11 : decode cX10_factCountWithout 11 = .ok (.iaload, 1) := by decide +kernel
theorem dX10_factCountWithout_12 : decode cX10_factCountWithout 12 = .ok (.invokestatic 190, 3) := by decide +kernel
theorem dX10_factCountWithout_15 : decode cX10_factCountWithout 15 = .ok (.iconst (-1), 1) := by decide +kernel
theorem dX10_factCountWithout_16 : decode cX10_factCountWithout 16 = .ok (.ixor, 1) := by decide +kernel
theorem dX10_factCountWithout_17 : decode cX10_factCountWithout 17 = .ok (.iand, 1) := by decide +kernel
theorem dX10_factCountWithout_18 : decode cX10_factCountWithout 18 = .ok (.ifCond .ne 20, 3) := by decide +kernel
theorem dX10_factCountWithout_21 : decode cX10_factCountWithout 21 = .ok (.aload_n 0, 1) := by decide +kernel
theorem dX10_factCountWithout_22 : decode cX10_factCountWithout 22 = .ok (.aload_n 0, 1) := by decide +kernel
theorem dX10_factCountWithout_23 : decode cX10_factCountWithout 23 = .ok (.getfield 39, 3) := by decide +kernel
theorem dX10_factCountWithout_26 : decode cX10_factCountWithout 26 = .ok (.iconst 1, 1) := by decide +kernel
theorem dX10_factCountWithout_27 : decode cX10_factCountWithout 27 = .ok (.iaload, 1) := by decide +kernel
theorem dX10_factCountWithout_28 : decode cX10_factCountWithout 28 = .ok (.iload_n 1, 1) := by decide +kernel
theorem dX10_factCountWithout_29 : decode cX10_factCountWithout 29 = .ok (.iconst (-1), 1) := by decide +kernel
theorem dX10_factCountWithout_30 : decode cX10_factCountWithout 30 = .ok (.ixor, 1) := by decide +kernel
theorem dX10_factCountWithout_31 : decode cX10_factCountWithout 31 = .ok (.iand, 1) := by decide +kernel
theorem dX10_factCountWithout_32 : decode cX10_factCountWithout 32 = .ok (.invokevirtual 357, 3) := by decide +kernel
theorem dX10_factCountWithout_35 : decode cX10_factCountWithout 35 = .ok (.goto 4, 3) := by decide +kernel
theorem dX10_factCountWithout_38 : decode cX10_factCountWithout 38 = .ok (.iconst (-1), 1) := by decide +kernel
theorem dX10_factCountWithout_39 : decode cX10_factCountWithout 39 = .ok (.ireturn, 1) := by decide +kernel
set_option maxHeartbeats 4000000 in
set_option maxRecDepth 100000 in
theorem c_X10_factCountWithout {l : Launch} {g : Gh} {w : Wd} {k0 : Nat} {v_constraints : Int32} {rz : Int32} {wz : Wd} (hF : f_X10_factCountWithout w k0 v_constraints = some (rz, wz)) (hk0 : zct zM k0 = 10) : Met l yX10_factCountWithout (Cond.code yX10_factCountWithout cX10_factCountWithout 2 (some .int) :: TT) (rmd 5) (Pcw zM g w [.ref (g.2.2 k0), .int (v_constraints)]) (Qw zM g wz (some (.int (rz)))) 0 0 (zA zM g) := by
  refine mt_start (by decide) (Nat.le_of_ble_eq_true rfl) ?_
  intro p e s m args below meth c H locs ls X hr hl hH
  have hx := X.1
  have hb := X.2.1
  have hml := X.2.2.1
  have hown := X.2.2.2.1
  have ht := X.2.2.2.2.1
  have hl : lv_has ls 2 [(0, .ref (g.2.2 (k0))), (1, .int (v_constraints))] := hl
  unfold f_X10_factCountWithout at hF
  refine lv_aload_n hx hb dX10_factCountWithout_0 rfl (lv_at hl 0 rfl) ?_
  refine lv_iconst (v := (0 : Int32)) hx hb dX10_factCountWithout_1 (by decide) ?_
  obtain ⟨w1, h1, hF⟩ := ob hF
  refine w_puti X hH h1 hk0 fs_10_0 nf_10_0 lk_10_85 dX10_factCountWithout_2 (fun H locs hH => ?_)
  obtain ⟨x3, hx3, hF⟩ := ob hF
  have J2 : ∀ (H : Heap) (locs : List Loc), HW zM g x3.2 s.heap H locs → W p l e (rmd 5) s m args below meth c H locs 0 0 (MQ below (Qw zM g wz (some (.int (rz)))) args s 0 0 (zA zM g)) (F0 m 39 ls [.int (x3.1)]) := by
    intro H locs hH
    obtain ⟨rfl, rfl⟩ := se2 hF
    exact w_iret X hH hr dX10_factCountWithout_39
  have hF := hx3
  refine lv_iload_n hx hb dX10_factCountWithout_5 rfl (lv_at hl 1 rfl) ?_
  refine lv_aload_n hx hb dX10_factCountWithout_6 rfl (lv_at hl 0 rfl) ?_
  refine w_getr X hH hk0 fs_10_18 lk_10_39 dX10_factCountWithout_7 ?_
  refine lv_iconst (v := (0 : Int32)) hx hb dX10_factCountWithout_10 (by decide) ?_
  obtain ⟨x4, h4, hF⟩ := ob hF
  refine w_iald X hH h4 (rt_M_10_18 hk0) dX10_factCountWithout_11 ?_
  refine w_callS (As := [.int (x4)]) (rest := [.int (v_constraints)]) (st1 := [.int ((f_X10_allOf (x4))), .int (v_constraints)]) X hH (c_X10_allOf (l := l) (g := g) (w := w1) (v_n := x4) rfl) (Or.inl tw_6_90) ms_X10_allOf tw_6_91 ⟨Nat.le_of_ble_eq_true rfl, Nat.le_of_ble_eq_true rfl⟩ rfl rfl hl.1 (Nat.le_of_ble_eq_true rfl) dX10_factCountWithout_12 ⟨Nat.le_refl _, Nat.le_refl _⟩ rfl (fun H locs hH => ?_)
  refine lv_iconst (v := (-1 : Int32)) hx hb dX10_factCountWithout_15 (by decide) ?_
  refine lv_ixor hx hb dX10_factCountWithout_16 ?_
  refine lv_iand hx hb dX10_factCountWithout_17 ?_
  refine w_zeq_f (tgt := 38) hx hb dX10_factCountWithout_18 (by decide) (fun c5 => ?_) (fun c5 => ?_)
  · replace hF := ifn c5 hF
    refine lv_iconst (v := (-1 : Int32)) hx hb dX10_factCountWithout_38 (by decide) ?_
    obtain rfl := se1 hF
    exact J2 _ _ hH
  · replace hF := ifp c5 hF
    refine lv_aload_n hx hb dX10_factCountWithout_21 rfl (lv_at hl 0 rfl) ?_
    refine lv_aload_n hx hb dX10_factCountWithout_22 rfl (lv_at hl 0 rfl) ?_
    refine w_getr X hH hk0 fs_10_18 lk_10_39 dX10_factCountWithout_23 ?_
    refine lv_iconst (v := (1 : Int32)) hx hb dX10_factCountWithout_26 (by decide) ?_
    obtain ⟨x6, h6, hF⟩ := ob hF
    refine w_iald X hH h6 (rt_M_10_18 hk0) dX10_factCountWithout_27 ?_
    refine lv_iload_n hx hb dX10_factCountWithout_28 rfl (lv_at hl 1 rfl) ?_
    refine lv_iconst (v := (-1 : Int32)) hx hb dX10_factCountWithout_29 (by decide) ?_
    refine lv_ixor hx hb dX10_factCountWithout_30 ?_
    refine lv_iand hx hb dX10_factCountWithout_31 ?_
    obtain ⟨x7, h7, hF⟩ := ob hF
    refine w_callV (As := [.int ((x6 &&& (v_constraints ^^^ (-1 : Int32))))]) (k := k0) (rest := []) (st1 := [.int (x7.1)]) X hH (c_X10_factsWith (l := l) (g := g) (w := w1) (k0 := k0) (v_enabled := (x6 &&& (v_constraints ^^^ (-1 : Int32)))) h7 hk0) (Or.inl tw_7_118) ms_X10_factsWith im_X10_factsWith hk0 cn_10 ⟨Nat.le_of_ble_eq_true rfl, Nat.le_of_ble_eq_true rfl⟩ rfl rfl hl.1 (Nat.le_of_ble_eq_true rfl) dX10_factCountWithout_32 ⟨Nat.le_refl _, Nat.le_refl _⟩ rfl (fun H locs hH => ?_)
    refine lv_goto (tgt := 39) hx hb dX10_factCountWithout_35 (by decide) ?_
    obtain rfl := se1 hF
    exact J2 _ _ hH

theorem dX10_mostInfluentialConstraint_0 : decode cX10_mostInfluentialConstraint 0 = .ok (.aload_n 0, 1) := by decide +kernel
theorem dX10_mostInfluentialConstraint_1 : decode cX10_mostInfluentialConstraint 1 = .ok (.iconst 0, 1) := by decide +kernel
theorem dX10_mostInfluentialConstraint_2 : decode cX10_mostInfluentialConstraint 2 = .ok (.putfield 85, 3) := by decide +kernel
theorem dX10_mostInfluentialConstraint_5 : decode cX10_mostInfluentialConstraint 5 = .ok (.bipush (-2), 2) := by decide +kernel
theorem dX10_mostInfluentialConstraint_7 : decode cX10_mostInfluentialConstraint 7 = .ok (.istore_n 1, 1) := by decide +kernel
theorem dX10_mostInfluentialConstraint_8 : decode cX10_mostInfluentialConstraint 8 = .ok (.aload_n 0, 1) := by decide +kernel
theorem dX10_mostInfluentialConstraint_9 : decode cX10_mostInfluentialConstraint 9 = .ok (.invokevirtual 260, 3) := by decide +kernel
theorem dX10_mostInfluentialConstraint_12 : decode cX10_mostInfluentialConstraint 12 = .ok (.istore_n 2, 1) := by decide +kernel
theorem dX10_mostInfluentialConstraint_13 : decode cX10_mostInfluentialConstraint 13 = .ok (.iconst 0, 1) := by decide +kernel
theorem dX10_mostInfluentialConstraint_14 : decode cX10_mostInfluentialConstraint 14 = .ok (.istore_n 3, 1) := by decide +kernel
theorem dX10_mostInfluentialConstraint_15 : decode cX10_mostInfluentialConstraint 15 = .ok (.iload_n 3, 1) := by decide +kernel
theorem dX10_mostInfluentialConstraint_16 : decode cX10_mostInfluentialConstraint 16 = .ok (.aload_n 0, 1) := by decide +kernel
theorem dX10_mostInfluentialConstraint_17 : decode cX10_mostInfluentialConstraint 17 = .ok (.getfield 39, 3) := by decide +kernel
theorem dX10_mostInfluentialConstraint_20 : decode cX10_mostInfluentialConstraint 20 = .ok (.iconst 0, 1) := by decide +kernel
theorem dX10_mostInfluentialConstraint_21 : decode cX10_mostInfluentialConstraint 21 = .ok (.iaload, 1) := by decide +kernel
theorem dX10_mostInfluentialConstraint_22 : decode cX10_mostInfluentialConstraint 22 = .ok (.if_icmp .ge 52, 3) := by decide +kernel
theorem dX10_mostInfluentialConstraint_25 : decode cX10_mostInfluentialConstraint 25 = .ok (.aload_n 0, 1) := by decide +kernel
theorem dX10_mostInfluentialConstraint_26 : decode cX10_mostInfluentialConstraint 26 = .ok (.iload_n 3, 1) := by decide +kernel
theorem dX10_mostInfluentialConstraint_27 : decode cX10_mostInfluentialConstraint 27 = .ok (.invokevirtual 251, 3) := by decide +kernel
theorem dX10_mostInfluentialConstraint_30 : decode cX10_mostInfluentialConstraint 30 = .ok (.ifCond .ne 6, 3) := by decide +kernel
theorem dX10_mostInfluentialConstraint_33 : decode cX10_mostInfluentialConstraint 33 = .ok (.goto 35, 3) := by decide +kernel
theorem dX10_mostInfluentialConstraint_36 : decode cX10_mostInfluentialConstraint 36 = .ok (.aload_n 0, 1) := by decide +kernel
theorem dX10_mostInfluentialConstraint_37 : decode cX10_mostInfluentialConstraint 37 = .ok (.aload_n 0, 1) := by decide +kernel
theorem dX10_mostInfluentialConstraint_38 : decode cX10_mostInfluentialConstraint 38 = .ok (.getfield 39, 3) := by decide +kernel
theorem dX10_mostInfluentialConstraint_41 : decode cX10_mostInfluentialConstraint 41 = .ok (.iconst 1, 1) := by decide +kernel
theorem dX10_mostInfluentialConstraint_42 : decode cX10_mostInfluentialConstraint 42 = .ok (.iaload, 1) := by decide +kernel
theorem dX10_mostInfluentialConstraint_43 : decode cX10_mostInfluentialConstraint 43 = .ok (.iconst 1, 1) := by decide +kernel
theorem dX10_mostInfluentialConstraint_44 : decode cX10_mostInfluentialConstraint 44 = .ok (.iload_n 3, 1) := by decide +kernel
theorem dX10_mostInfluentialConstraint_45 : decode cX10_mostInfluentialConstraint 45 = .ok (.ishl, 1) := by decide +kernel
theorem dX10_mostInfluentialConstraint_46 : decode cX10_mostInfluentialConstraint 46 = .ok (.iconst (-1), 1) := by decide +kernel
theorem dX10_mostInfluentialConstraint_47 : decode cX10_mostInfluentialConstraint 47 = .ok (.ixor, 1) := by decide +kernel
theorem dX10_mostInfluentialConstraint_48 : decode cX10_mostInfluentialConstraint 48 = .ok (.iand, 1) := by decide +kernel
theorem dX10_mostInfluentialConstraint_49 : decode cX10_mostInfluentialConstraint 49 = .ok (.invokevirtual 357, 3) := by decide +kernel
theorem dX10_mostInfluentialConstraint_52 : decode cX10_mostInfluentialConstraint 52 = .ok (.istore 4, 2) := by decide +kernel
theorem dX10_mostInfluentialConstraint_54 : decode cX10_mostInfluentialConstraint 54 = .ok (.iload 4, 2) := by decide +kernel
theorem dX10_mostInfluentialConstraint_56 : decode cX10_mostInfluentialConstraint 56 = .ok (.iload_n 2, 1) := by decide +kernel
theorem dX10_mostInfluentialConstraint_57 : decode cX10_mostInfluentialConstraint 57 = .ok (.if_icmp .lt 6, 3) := by decide +kernel
theorem dX10_mostInfluentialConstraint_60 : decode cX10_mostInfluentialConstraint 60 = .ok (.goto 8, 3) := by decide +kernel
theorem dX10_mostInfluentialConstraint_63 : decode cX10_mostInfluentialConstraint 63 = .ok (.iload_n 3, 1) := by decide +kernel
theorem dX10_mostInfluentialConstraint_64 : decode cX10_mostInfluentialConstraint 64 = .ok (.istore_n 1, 1) := by decide +kernel
theorem dX10_mostInfluentialConstraint_65 : decode cX10_mostInfluentialConstraint 65 = .ok (.iload 4, 2) := by decide +kernel
theorem dX10_mostInfluentialConstraint_67 : decode cX10_mostInfluentialConstraint 67 = .ok (.istore_n 2, 1) := by decide +kernel
theorem dX10_mostInfluentialConstraint_68 : decode cX10_mostInfluentialConstraint 68 = .ok (.iinc 3 1, 3) := by decide +kernel
theorem dX10_mostInfluentialConstraint_71 : decode cX10_mostInfluentialConstraint 71 = .ok (.goto (-56), 3) := by decide +kernel
theorem dX10_mostInfluentialConstraint_74 : decode cX10_mostInfluentialConstraint 74 = .ok (.iload_n 1, 1) := by decide +kernel
theorem dX10_mostInfluentialConstraint_75 : decode cX10_mostInfluentialConstraint 75 = .ok (.ireturn, 1) := by decide +kernel
set_option maxHeartbeats 4000000 in
set_option maxRecDepth 100000 in
theorem c_X10_mostInfluentialConstraint {l : Launch} {g : Gh} {w : Wd} {k0 : Nat} {rz : Int32} {wz : Wd} (hF : f_X10_mostInfluentialConstraint w k0 = some (rz, wz)) (hk0 : zct zM k0 = 10) : Met l yX10_mostInfluentialConstraint (Cond.code yX10_mostInfluentialConstraint cX10_mostInfluentialConstraint 5 (some .int) :: TT) (rmd 5) (Pcw zM g w [.ref (g.2.2 k0)]) (Qw zM g wz (some (.int (rz)))) 0 0 (zA zM g) := by
  refine mt_start (by decide) (Nat.le_of_ble_eq_true rfl) ?_
  intro p e s m args below meth c H locs ls X hr hl hH
  have hx := X.1
  have hb := X.2.1
  have hml := X.2.2.1
  have hown := X.2.2.2.1
  have ht := X.2.2.2.2.1
  have hl : lv_has ls 5 [(0, .ref (g.2.2 (k0)))] := hl
  unfold f_X10_mostInfluentialConstraint at hF
  refine lv_aload_n hx hb dX10_mostInfluentialConstraint_0 rfl (lv_at hl 0 rfl) ?_
  refine lv_iconst (v := (0 : Int32)) hx hb dX10_mostInfluentialConstraint_1 (by decide) ?_
  obtain ⟨w1, h1, hF⟩ := ob hF
  refine w_puti X hH h1 hk0 fs_10_0 nf_10_0 lk_10_85 dX10_mostInfluentialConstraint_2 (fun H locs hH => ?_)
  refine lv_bipush (v := (-2 : Int32)) hx hb dX10_mostInfluentialConstraint_5 (by decide) ?_
  refine lv_istore_n (lv' := [(1, .int ((-2 : Int32))), (0, .ref (g.2.2 (k0)))]) hx hb dX10_mostInfluentialConstraint_7 rfl hl (by decide) rfl (fun ls hl => ?_)
  refine lv_aload_n hx hb dX10_mostInfluentialConstraint_8 rfl (lv_at hl 1 rfl) ?_
  obtain ⟨x2, h2, hF⟩ := ob hF
  refine w_callV (As := []) (k := k0) (rest := []) (st1 := [.int (x2)]) X hH (c_X10_facts (l := l) (g := g) (w := w1) (k0 := k0) h2 hk0) (Or.inl tw_6_157) ms_X10_facts im_X10_facts hk0 cn_10 ⟨Nat.le_of_ble_eq_true rfl, Nat.le_of_ble_eq_true rfl⟩ rfl rfl hl.1 (Nat.le_of_ble_eq_true rfl) dX10_mostInfluentialConstraint_9 ⟨Nat.le_refl _, Nat.le_refl _⟩ rfl (fun H locs hH => ?_)
  refine lv_istore_n (lv' := [(2, .int (x2)), (1, .int ((-2 : Int32))), (0, .ref (g.2.2 (k0)))]) hx hb dX10_mostInfluentialConstraint_12 rfl hl (by decide) rfl (fun ls hl => ?_)
  refine lv_iconst (v := (0 : Int32)) hx hb dX10_mostInfluentialConstraint_13 (by decide) ?_
  refine lv_istore_n (lv' := [(3, .int ((0 : Int32))), (2, .int (x2)), (1, .int ((-2 : Int32))), (0, .ref (g.2.2 (k0)))]) hx hb dX10_mostInfluentialConstraint_14 rfl hl (by decide) rfl (fun ls hl => ?_)
  obtain ⟨r4, hLr4, hF⟩ := ob hF
  have Jr4 : ∀ (H : Heap) (locs : List Loc) (ls : Array Slot), HW zM g r4.2.2 s.heap H locs → lv_has ls 5 [(0, .ref (g.2.2 (k0))), (1, .int (r4.1)), (2, .int (r4.2.1))] → W p l e (rmd 5) s m args below meth c H locs 0 0 (MQ below (Qw zM g wz (some (.int (rz)))) args s 0 0 (zA zM g)) (F0 m 74 ls []) := by
    intro H locs ls hH hl
    refine lv_iload_n hx hb dX10_mostInfluentialConstraint_74 rfl (lv_at hl 1 rfl) ?_
    obtain ⟨rfl, rfl⟩ := se2 hF
    exact w_iret X hH hr dX10_mostInfluentialConstraint_75
  have Lr4 : ∀ (n : Nat) (s3 : Int32 × Int32 × Int32 × Wd), lp (b_X10_mostInfluentialConstraint_1 k0) n s3 = some r4 → ∀ (H : Heap) (locs : List Loc) (ls : Array Slot), HW zM g s3.2.2.2 s.heap H locs → lv_has ls 5 [(0, .ref (g.2.2 (k0))), (1, .int (s3.1)), (2, .int (s3.2.1)), (3, .int (s3.2.2.1))] → W p l e (rmd 5) s m args below meth c H locs 0 0 (MQ below (Qw zM g wz (some (.int (rz)))) args s 0 0 (zA zM g)) (F0 m 15 ls []) := by
    intro n
    induction n with
    | zero => intro s3 hL; exact lp_0 hL
    | succ n ih =>
      intro s3 hL H locs ls hH hl
      obtain ⟨bb, hF, hL⟩ := lp_s hL
      unfold b_X10_mostInfluentialConstraint_1 at hF
      refine lv_iload_n hx hb dX10_mostInfluentialConstraint_15 rfl (lv_at hl 3 rfl) ?_
      refine lv_aload_n hx hb dX10_mostInfluentialConstraint_16 rfl (lv_at hl 0 rfl) ?_
      refine w_getr X hH hk0 fs_10_18 lk_10_39 dX10_mostInfluentialConstraint_17 ?_
      refine lv_iconst (v := (0 : Int32)) hx hb dX10_mostInfluentialConstraint_20 (by decide) ?_
      obtain ⟨x5, h5, hF⟩ := ob hF
      refine w_iald X hH h5 (rt_M_10_18 hk0) dX10_mostInfluentialConstraint_21 ?_
      refine w_ilt_f (tgt := 74) hx hb dX10_mostInfluentialConstraint_22 (by decide) (fun c6 => ?_) (fun c6 => ?_)
      · replace hF := ifn c6 hF
        obtain rfl := se1 hF
        subst hL
        exact Jr4 _ _ _ hH (lv_sub hl [0, 1, 2] rfl)
      · replace hF := ifp c6 hF
        refine lv_aload_n hx hb dX10_mostInfluentialConstraint_25 rfl (lv_at hl 0 rfl) ?_
        refine lv_iload_n hx hb dX10_mostInfluentialConstraint_26 rfl (lv_at hl 3 rfl) ?_
        obtain ⟨x7, h7, hF⟩ := ob hF
        refine w_callV (As := [.int (s3.2.2.1)]) (k := k0) (rest := []) (st1 := [.int (bI (x7))]) X hH (c_X10_isEnabled (l := l) (g := g) (w := s3.2.2.2) (k0 := k0) (v_c := s3.2.2.1) h7 hk0) (Or.inl tw_5_37) ms_X10_isEnabled im_X10_isEnabled hk0 cn_10 ⟨Nat.le_of_ble_eq_true rfl, Nat.le_of_ble_eq_true rfl⟩ rfl rfl hl.1 (Nat.le_of_ble_eq_true rfl) dX10_mostInfluentialConstraint_27 ⟨Nat.le_refl _, Nat.le_refl _⟩ rfl (fun H locs hH => ?_)
        refine w_b_t (tgt := 36) hx hb dX10_mostInfluentialConstraint_30 (by decide) (fun c8 => ?_) (fun c8 => ?_)
        · replace hF := ifn (fun z => z c8) hF
          refine lv_aload_n hx hb dX10_mostInfluentialConstraint_36 rfl (lv_at hl 0 rfl) ?_
          refine lv_aload_n hx hb dX10_mostInfluentialConstraint_37 rfl (lv_at hl 0 rfl) ?_
          refine w_getr X hH hk0 fs_10_18 lk_10_39 dX10_mostInfluentialConstraint_38 ?_
          refine lv_iconst (v := (1 : Int32)) hx hb dX10_mostInfluentialConstraint_41 (by decide) ?_
          obtain ⟨x9, h9, hF⟩ := ob hF
          refine w_iald X hH h9 (rt_M_10_18 hk0) dX10_mostInfluentialConstraint_42 ?_
          refine lv_iconst (v := (1 : Int32)) hx hb dX10_mostInfluentialConstraint_43 (by decide) ?_
          refine lv_iload_n hx hb dX10_mostInfluentialConstraint_44 rfl (lv_at hl 3 rfl) ?_
          refine w_ishl hx hb dX10_mostInfluentialConstraint_45 ?_
          refine lv_iconst (v := (-1 : Int32)) hx hb dX10_mostInfluentialConstraint_46 (by decide) ?_
          refine lv_ixor hx hb dX10_mostInfluentialConstraint_47 ?_
          refine lv_iand hx hb dX10_mostInfluentialConstraint_48 ?_
          obtain ⟨x10, h10, hF⟩ := ob hF
          refine w_callV (As := [.int ((x9 &&& ((jshl ((1 : Int32)) (s3.2.2.1)) ^^^ (-1 : Int32))))]) (k := k0) (rest := []) (st1 := [.int (x10.1)]) X hH (c_X10_factsWith (l := l) (g := g) (w := s3.2.2.2) (k0 := k0) (v_enabled := (x9 &&& ((jshl ((1 : Int32)) (s3.2.2.1)) ^^^ (-1 : Int32)))) h10 hk0) (Or.inl tw_7_118) ms_X10_factsWith im_X10_factsWith hk0 cn_10 ⟨Nat.le_of_ble_eq_true rfl, Nat.le_of_ble_eq_true rfl⟩ rfl rfl hl.1 (Nat.le_of_ble_eq_true rfl) dX10_mostInfluentialConstraint_49 ⟨Nat.le_refl _, Nat.le_refl _⟩ rfl (fun H locs hH => ?_)
          refine lv_istore (lv' := [(4, .int (x10.1)), (0, .ref (g.2.2 (k0))), (1, .int (s3.1)), (2, .int (s3.2.1)), (3, .int (s3.2.2.1))]) hx hb dX10_mostInfluentialConstraint_52 hl (by decide) rfl (fun ls hl => ?_)
          refine lv_iload hx hb dX10_mostInfluentialConstraint_54 (lv_at hl 0 rfl) ?_
          refine lv_iload_n hx hb dX10_mostInfluentialConstraint_56 rfl (lv_at hl 3 rfl) ?_
          refine w_ige_f (tgt := 63) hx hb dX10_mostInfluentialConstraint_57 (by decide) (fun c11 => ?_) (fun c11 => ?_)
          · replace hF := ifn c11 hF
            refine lv_iload_n hx hb dX10_mostInfluentialConstraint_63 rfl (lv_at hl 4 rfl) ?_
            refine lv_istore_n (lv' := [(1, .int (s3.2.2.1)), (4, .int (x10.1)), (0, .ref (g.2.2 (k0))), (2, .int (s3.2.1)), (3, .int (s3.2.2.1))]) hx hb dX10_mostInfluentialConstraint_64 rfl hl (by decide) rfl (fun ls hl => ?_)
            refine lv_iload hx hb dX10_mostInfluentialConstraint_65 (lv_at hl 1 rfl) ?_
            refine lv_istore_n (lv' := [(2, .int (x10.1)), (1, .int (s3.2.2.1)), (4, .int (x10.1)), (0, .ref (g.2.2 (k0))), (3, .int (s3.2.2.1))]) hx hb dX10_mostInfluentialConstraint_67 rfl hl (by decide) rfl (fun ls hl => ?_)
            refine lv_iinc (v := (s3.2.2.1 + (1 : Int32))) (lv' := [(3, .int ((s3.2.2.1 + (1 : Int32)))), (2, .int (x10.1)), (1, .int (s3.2.2.1)), (4, .int (x10.1)), (0, .ref (g.2.2 (k0)))]) hx hb dX10_mostInfluentialConstraint_68 hl (k := 4) rfl rfl (by decide) rfl (fun ls hl => ?_)
            refine lv_goto (tgt := 15) hx hb dX10_mostInfluentialConstraint_71 (by decide) ?_
            obtain rfl := se1 hF
            exact ih _ hL _ _ _ hH (lv_sub hl [4, 2, 1, 0] rfl)
          · replace hF := ifp c11 hF
            refine lv_goto (tgt := 68) hx hb dX10_mostInfluentialConstraint_60 (by decide) ?_
            refine lv_iinc (v := (s3.2.2.1 + (1 : Int32))) (lv' := [(3, .int ((s3.2.2.1 + (1 : Int32)))), (4, .int (x10.1)), (0, .ref (g.2.2 (k0))), (1, .int (s3.1)), (2, .int (s3.2.1))]) hx hb dX10_mostInfluentialConstraint_68 hl (k := 4) rfl rfl (by decide) rfl (fun ls hl => ?_)
            refine lv_goto (tgt := 15) hx hb dX10_mostInfluentialConstraint_71 (by decide) ?_
            obtain rfl := se1 hF
            exact ih _ hL _ _ _ hH (lv_sub hl [2, 3, 4, 0] rfl)
        · replace hF := ifp c8 hF
          refine lv_goto (tgt := 68) hx hb dX10_mostInfluentialConstraint_33 (by decide) ?_
          refine lv_iinc (v := (s3.2.2.1 + (1 : Int32))) (lv' := [(3, .int ((s3.2.2.1 + (1 : Int32)))), (0, .ref (g.2.2 (k0))), (1, .int (s3.1)), (2, .int (s3.2.1))]) hx hb dX10_mostInfluentialConstraint_68 hl (k := 3) rfl rfl (by decide) rfl (fun ls hl => ?_)
          refine lv_goto (tgt := 15) hx hb dX10_mostInfluentialConstraint_71 (by decide) ?_
          obtain rfl := se1 hF
          exact ih _ hL _ _ _ hH (lv_sub hl [1, 2, 3, 0] rfl)
  exact Lr4 NF _ hLr4 _ _ _ hH (lv_sub hl [3, 2, 1, 0] rfl)

theorem dX10_redundantConstraintCount_0 : decode cX10_redundantConstraintCount 0 = .ok (.aload_n 0, 1) := by decide +kernel
theorem dX10_redundantConstraintCount_1 : decode cX10_redundantConstraintCount 1 = .ok (.iconst 0, 1) := by decide +kernel
theorem dX10_redundantConstraintCount_2 : decode cX10_redundantConstraintCount 2 = .ok (.putfield 85, 3) := by decide +kernel
theorem dX10_redundantConstraintCount_5 : decode cX10_redundantConstraintCount 5 = .ok (.aload_n 0, 1) := by decide +kernel
theorem dX10_redundantConstraintCount_6 : decode cX10_redundantConstraintCount 6 = .ok (.invokevirtual 260, 3) := by decide +kernel
theorem dX10_redundantConstraintCount_9 : decode cX10_redundantConstraintCount 9 = .ok (.istore_n 1, 1) := by decide +kernel
theorem dX10_redundantConstraintCount_10 : decode cX10_redundantConstraintCount 10 = .ok (.iconst 0, 1) := by decide +kernel
theorem dX10_redundantConstraintCount_11 : decode cX10_redundantConstraintCount 11 = .ok (.istore_n 2, 1) := by decide +kernel
theorem dX10_redundantConstraintCount_12 : decode cX10_redundantConstraintCount 12 = .ok (.iconst 0, 1) := by decide +kernel
theorem dX10_redundantConstraintCount_13 : decode cX10_redundantConstraintCount 13 = .ok (.istore_n 3, 1) := by decide +kernel
theorem dX10_redundantConstraintCount_14 : decode cX10_redundantConstraintCount 14 = .ok (.iload_n 3, 1) := by decide +kernel
theorem dX10_redundantConstraintCount_15 : decode cX10_redundantConstraintCount 15 = .ok (.aload_n 0, 1) := by decide +kernel
theorem dX10_redundantConstraintCount_16 : decode cX10_redundantConstraintCount 16 = .ok (.getfield 39, 3) := by decide +kernel
theorem dX10_redundantConstraintCount_19 : decode cX10_redundantConstraintCount 19 = .ok (.iconst 0, 1) := by decide +kernel
theorem dX10_redundantConstraintCount_20 : decode cX10_redundantConstraintCount 20 = .ok (.iaload, 1) := by decide +kernel
theorem dX10_redundantConstraintCount_21 : decode cX10_redundantConstraintCount 21 = .ok (.if_icmp .ge 45, 3) := by decide +kernel
theorem dX10_redundantConstraintCount_24 : decode cX10_redundantConstraintCount 24 = .ok (.iload_n 2, 1) := by decide +kernel
theorem dX10_redundantConstraintCount_25 : decode cX10_redundantConstraintCount 25 = .ok (.aload_n 0, 1) := by decide +kernel
theorem dX10_redundantConstraintCount_26 : decode cX10_redundantConstraintCount 26 = .ok (.iload_n 3, 1) := by decide +kernel
theorem dX10_redundantConstraintCount_27 : decode cX10_redundantConstraintCount 27 = .ok (.invokevirtual 251, 3) := by decide +kernel
theorem dX10_redundantConstraintCount_30 : decode cX10_redundantConstraintCount 30 = .ok (.ifCond .eq 27, 3) := by decide +kernel
theorem dX10_redundantConstraintCount_33 : decode cX10_redundantConstraintCount 33 = .ok (.aload_n 0, 1) := by decide +kernel
theorem dX10_redundantConstraintCount_34 : decode cX10_redundantConstraintCount 34 = .ok (.aload_n 0, 1) := by decide +kernel
theorem dX10_redundantConstraintCount_35 : decode cX10_redundantConstraintCount 35 = .ok (.getfield 39, 3) := by decide +kernel
theorem dX10_redundantConstraintCount_38 : decode cX10_redundantConstraintCount 38 = .ok (.iconst 1, 1) := by decide +kernel
theorem dX10_redundantConstraintCount_39 : decode cX10_redundantConstraintCount 39 = .ok (.iaload, 1) := by decide +kernel
theorem dX10_redundantConstraintCount_40 : decode cX10_redundantConstraintCount 40 = .ok (.iconst 1, 1) := by decide +kernel
theorem dX10_redundantConstraintCount_41 : decode cX10_redundantConstraintCount 41 = .ok (.iload_n 3, 1) := by decide +kernel
theorem dX10_redundantConstraintCount_42 : decode cX10_redundantConstraintCount 42 = .ok (.ishl, 1) := by decide +kernel
theorem dX10_redundantConstraintCount_43 : decode cX10_redundantConstraintCount 43 = .ok (.iconst (-1), 1) := by decide +kernel
theorem dX10_redundantConstraintCount_44 : decode cX10_redundantConstraintCount 44 = .ok (.ixor, 1) := by decide +kernel
theorem dX10_redundantConstraintCount_45 : decode cX10_redundantConstraintCount 45 = .ok (.iand, 1) := by decide +kernel
theorem dX10_redundantConstraintCount_46 : decode cX10_redundantConstraintCount 46 = .ok (.invokevirtual 357, 3) := by decide +kernel
theorem dX10_redundantConstraintCount_49 : decode cX10_redundantConstraintCount 49 = .ok (.iload_n 1, 1) := by decide +kernel
theorem dX10_redundantConstraintCount_50 : decode cX10_redundantConstraintCount 50 = .ok (.if_icmp .ne 7, 3) := by decide +kernel
theorem dX10_redundantConstraintCount_53 : decode cX10_redundantConstraintCount 53 = .ok (.iconst 1, 1) := by decide +kernel
theorem dX10_redundantConstraintCount_54 : decode cX10_redundantConstraintCount 54 = .ok (.goto 4, 3) := by decide +kernel
theorem dX10_redundantConstraintCount_57 : decode cX10_redundantConstraintCount 57 = .ok (.iconst 0, 1) := by decide +kernel
theorem dX10_redundantConstraintCount_58 : decode cX10_redundantConstraintCount 58 = .ok (.iadd, 1) := by decide +kernel
theorem dX10_redundantConstraintCount_59 : decode cX10_redundantConstraintCount 59 = .ok (.istore_n 2, 1) := by decide +kernel
theorem dX10_redundantConstraintCount_60 : decode cX10_redundantConstraintCount 60 = .ok (.iinc 3 1, 3) := by decide +kernel
theorem dX10_redundantConstraintCount_63 : decode cX10_redundantConstraintCount 63 = .ok (.goto (-49), 3) := by decide +kernel
theorem dX10_redundantConstraintCount_66 : decode cX10_redundantConstraintCount 66 = .ok (.iload_n 2, 1) := by decide +kernel
theorem dX10_redundantConstraintCount_67 : decode cX10_redundantConstraintCount 67 = .ok (.ireturn, 1) := by decide +kernel
set_option maxHeartbeats 4000000 in
set_option maxRecDepth 100000 in
theorem c_X10_redundantConstraintCount {l : Launch} {g : Gh} {w : Wd} {k0 : Nat} {rz : Int32} {wz : Wd} (hF : f_X10_redundantConstraintCount w k0 = some (rz, wz)) (hk0 : zct zM k0 = 10) : Met l yX10_redundantConstraintCount (Cond.code yX10_redundantConstraintCount cX10_redundantConstraintCount 4 (some .int) :: TT) (rmd 5) (Pcw zM g w [.ref (g.2.2 k0)]) (Qw zM g wz (some (.int (rz)))) 0 0 (zA zM g) := by
  refine mt_start (by decide) (Nat.le_of_ble_eq_true rfl) ?_
  intro p e s m args below meth c H locs ls X hr hl hH
  have hx := X.1
  have hb := X.2.1
  have hml := X.2.2.1
  have hown := X.2.2.2.1
  have ht := X.2.2.2.2.1
  have hl : lv_has ls 4 [(0, .ref (g.2.2 (k0)))] := hl
  unfold f_X10_redundantConstraintCount at hF
  refine lv_aload_n hx hb dX10_redundantConstraintCount_0 rfl (lv_at hl 0 rfl) ?_
  refine lv_iconst (v := (0 : Int32)) hx hb dX10_redundantConstraintCount_1 (by decide) ?_
  obtain ⟨w1, h1, hF⟩ := ob hF
  refine w_puti X hH h1 hk0 fs_10_0 nf_10_0 lk_10_85 dX10_redundantConstraintCount_2 (fun H locs hH => ?_)
  refine lv_aload_n hx hb dX10_redundantConstraintCount_5 rfl (lv_at hl 0 rfl) ?_
  obtain ⟨x2, h2, hF⟩ := ob hF
  refine w_callV (As := []) (k := k0) (rest := []) (st1 := [.int (x2)]) X hH (c_X10_facts (l := l) (g := g) (w := w1) (k0 := k0) h2 hk0) (Or.inl tw_6_157) ms_X10_facts im_X10_facts hk0 cn_10 ⟨Nat.le_of_ble_eq_true rfl, Nat.le_of_ble_eq_true rfl⟩ rfl rfl hl.1 (Nat.le_of_ble_eq_true rfl) dX10_redundantConstraintCount_6 ⟨Nat.le_refl _, Nat.le_refl _⟩ rfl (fun H locs hH => ?_)
  refine lv_istore_n (lv' := [(1, .int (x2)), (0, .ref (g.2.2 (k0)))]) hx hb dX10_redundantConstraintCount_9 rfl hl (by decide) rfl (fun ls hl => ?_)
  refine lv_iconst (v := (0 : Int32)) hx hb dX10_redundantConstraintCount_10 (by decide) ?_
  refine lv_istore_n (lv' := [(2, .int ((0 : Int32))), (1, .int (x2)), (0, .ref (g.2.2 (k0)))]) hx hb dX10_redundantConstraintCount_11 rfl hl (by decide) rfl (fun ls hl => ?_)
  refine lv_iconst (v := (0 : Int32)) hx hb dX10_redundantConstraintCount_12 (by decide) ?_
  refine lv_istore_n (lv' := [(3, .int ((0 : Int32))), (2, .int ((0 : Int32))), (1, .int (x2)), (0, .ref (g.2.2 (k0)))]) hx hb dX10_redundantConstraintCount_13 rfl hl (by decide) rfl (fun ls hl => ?_)
  obtain ⟨r4, hLr4, hF⟩ := ob hF
  have Jr4 : ∀ (H : Heap) (locs : List Loc) (ls : Array Slot), HW zM g r4.2 s.heap H locs → lv_has ls 4 [(0, .ref (g.2.2 (k0))), (1, .int (x2)), (2, .int (r4.1))] → W p l e (rmd 5) s m args below meth c H locs 0 0 (MQ below (Qw zM g wz (some (.int (rz)))) args s 0 0 (zA zM g)) (F0 m 66 ls []) := by
    intro H locs ls hH hl
    refine lv_iload_n hx hb dX10_redundantConstraintCount_66 rfl (lv_at hl 2 rfl) ?_
    obtain ⟨rfl, rfl⟩ := se2 hF
    exact w_iret X hH hr dX10_redundantConstraintCount_67
  have Lr4 : ∀ (n : Nat) (s3 : Int32 × Int32 × Wd), lp (b_X10_redundantConstraintCount_1 k0 x2) n s3 = some r4 → ∀ (H : Heap) (locs : List Loc) (ls : Array Slot), HW zM g s3.2.2 s.heap H locs → lv_has ls 4 [(0, .ref (g.2.2 (k0))), (1, .int (x2)), (2, .int (s3.1)), (3, .int (s3.2.1))] → W p l e (rmd 5) s m args below meth c H locs 0 0 (MQ below (Qw zM g wz (some (.int (rz)))) args s 0 0 (zA zM g)) (F0 m 14 ls []) := by
    intro n
    induction n with
    | zero => intro s3 hL; exact lp_0 hL
    | succ n ih =>
      intro s3 hL H locs ls hH hl
      obtain ⟨bb, hF, hL⟩ := lp_s hL
      unfold b_X10_redundantConstraintCount_1 at hF
      refine lv_iload_n hx hb dX10_redundantConstraintCount_14 rfl (lv_at hl 3 rfl) ?_
      refine lv_aload_n hx hb dX10_redundantConstraintCount_15 rfl (lv_at hl 0 rfl) ?_
      refine w_getr X hH hk0 fs_10_18 lk_10_39 dX10_redundantConstraintCount_16 ?_
      refine lv_iconst (v := (0 : Int32)) hx hb dX10_redundantConstraintCount_19 (by decide) ?_
      obtain ⟨x5, h5, hF⟩ := ob hF
      refine w_iald X hH h5 (rt_M_10_18 hk0) dX10_redundantConstraintCount_20 ?_
      refine w_ilt_f (tgt := 66) hx hb dX10_redundantConstraintCount_21 (by decide) (fun c6 => ?_) (fun c6 => ?_)
      · replace hF := ifn c6 hF
        obtain rfl := se1 hF
        subst hL
        exact Jr4 _ _ _ hH (lv_sub hl [0, 1, 2] rfl)
      · replace hF := ifp c6 hF
        refine lv_iload_n hx hb dX10_redundantConstraintCount_24 rfl (lv_at hl 2 rfl) ?_
        obtain ⟨x8, hx8, hF⟩ := ob hF
        have J7 : ∀ (H : Heap) (locs : List Loc), HW zM g x8.2 s.heap H locs → W p l e (rmd 5) s m args below meth c H locs 0 0 (MQ below (Qw zM g wz (some (.int (rz)))) args s 0 0 (zA zM g)) (F0 m 58 ls [.int (x8.1), .int (s3.1)]) := by
          intro H locs hH
          refine lv_iadd hx hb dX10_redundantConstraintCount_58 ?_
          refine lv_istore_n (lv' := [(2, .int ((s3.1 + x8.1))), (0, .ref (g.2.2 (k0))), (1, .int (x2)), (3, .int (s3.2.1))]) hx hb dX10_redundantConstraintCount_59 rfl hl (by decide) rfl (fun ls hl => ?_)
          refine lv_iinc (v := (s3.2.1 + (1 : Int32))) (lv' := [(3, .int ((s3.2.1 + (1 : Int32)))), (2, .int ((s3.1 + x8.1))), (0, .ref (g.2.2 (k0))), (1, .int (x2))]) hx hb dX10_redundantConstraintCount_60 hl (k := 3) rfl rfl (by decide) rfl (fun ls hl => ?_)
          refine lv_goto (tgt := 14) hx hb dX10_redundantConstraintCount_63 (by decide) ?_
          obtain rfl := se1 hF
          exact ih _ hL _ _ _ hH (lv_sub hl [2, 3, 1, 0] rfl)
        have hF := hx8
        obtain ⟨b9, hb9, hF⟩ := ob hF
        have Jb9T : b9.1 = true → ∀ (H : Heap) (locs : List Loc), HW zM g b9.2 s.heap H locs → W p l e (rmd 5) s m args below meth c H locs 0 0 (MQ below (Qw zM g wz (some (.int (rz)))) args s 0 0 (zA zM g)) (F0 m 53 ls [.int (s3.1)]) := by
          intro hc H locs hH
          replace hF := ifp hc hF
          refine lv_iconst (v := (1 : Int32)) hx hb dX10_redundantConstraintCount_53 (by decide) ?_
          refine lv_goto (tgt := 58) hx hb dX10_redundantConstraintCount_54 (by decide) ?_
          obtain rfl := se1 hF
          exact J7 _ _ hH
        have Jb9F : ¬ (b9.1 = true) → ∀ (H : Heap) (locs : List Loc), HW zM g b9.2 s.heap H locs → W p l e (rmd 5) s m args below meth c H locs 0 0 (MQ below (Qw zM g wz (some (.int (rz)))) args s 0 0 (zA zM g)) (F0 m 57 ls [.int (s3.1)]) := by
          intro hc H locs hH
          replace hF := ifn hc hF
          refine lv_iconst (v := (0 : Int32)) hx hb dX10_redundantConstraintCount_57 (by decide) ?_
          obtain rfl := se1 hF
          exact J7 _ _ hH
        have hF := hb9
        refine lv_aload_n hx hb dX10_redundantConstraintCount_25 rfl (lv_at hl 0 rfl) ?_
        refine lv_iload_n hx hb dX10_redundantConstraintCount_26 rfl (lv_at hl 3 rfl) ?_
        obtain ⟨x11, h11, hF⟩ := ob hF
        refine w_callV (As := [.int (s3.2.1)]) (k := k0) (rest := [.int (s3.1)]) (st1 := [.int (bI (x11)), .int (s3.1)]) X hH (c_X10_isEnabled (l := l) (g := g) (w := s3.2.2) (k0 := k0) (v_c := s3.2.1) h11 hk0) (Or.inl tw_5_37) ms_X10_isEnabled im_X10_isEnabled hk0 cn_10 ⟨Nat.le_of_ble_eq_true rfl, Nat.le_of_ble_eq_true rfl⟩ rfl rfl hl.1 (Nat.le_of_ble_eq_true rfl) dX10_redundantConstraintCount_27 ⟨Nat.le_refl _, Nat.le_refl _⟩ rfl (fun H locs hH => ?_)
        refine w_b_f (tgt := 57) hx hb dX10_redundantConstraintCount_30 (by decide) (fun c10 => ?_) (fun c10 => ?_)
        · replace hF := ifn c10 hF
          obtain rfl := se1 hF
          exact Jb9F Bool.false_ne_true _ _ hH
        · replace hF := ifp c10 hF
          refine lv_aload_n hx hb dX10_redundantConstraintCount_33 rfl (lv_at hl 0 rfl) ?_
          refine lv_aload_n hx hb dX10_redundantConstraintCount_34 rfl (lv_at hl 0 rfl) ?_
          refine w_getr X hH hk0 fs_10_18 lk_10_39 dX10_redundantConstraintCount_35 ?_
          refine lv_iconst (v := (1 : Int32)) hx hb dX10_redundantConstraintCount_38 (by decide) ?_
          obtain ⟨x13, h13, hF⟩ := ob hF
          refine w_iald X hH h13 (rt_M_10_18 hk0) dX10_redundantConstraintCount_39 ?_
          refine lv_iconst (v := (1 : Int32)) hx hb dX10_redundantConstraintCount_40 (by decide) ?_
          refine lv_iload_n hx hb dX10_redundantConstraintCount_41 rfl (lv_at hl 3 rfl) ?_
          refine w_ishl hx hb dX10_redundantConstraintCount_42 ?_
          refine lv_iconst (v := (-1 : Int32)) hx hb dX10_redundantConstraintCount_43 (by decide) ?_
          refine lv_ixor hx hb dX10_redundantConstraintCount_44 ?_
          refine lv_iand hx hb dX10_redundantConstraintCount_45 ?_
          obtain ⟨x14, h14, hF⟩ := ob hF
          refine w_callV (As := [.int ((x13 &&& ((jshl ((1 : Int32)) (s3.2.1)) ^^^ (-1 : Int32))))]) (k := k0) (rest := [.int (s3.1)]) (st1 := [.int (x14.1), .int (s3.1)]) X hH (c_X10_factsWith (l := l) (g := g) (w := s3.2.2) (k0 := k0) (v_enabled := (x13 &&& ((jshl ((1 : Int32)) (s3.2.1)) ^^^ (-1 : Int32)))) h14 hk0) (Or.inl tw_7_118) ms_X10_factsWith im_X10_factsWith hk0 cn_10 ⟨Nat.le_of_ble_eq_true rfl, Nat.le_of_ble_eq_true rfl⟩ rfl rfl hl.1 (Nat.le_of_ble_eq_true rfl) dX10_redundantConstraintCount_46 ⟨Nat.le_refl _, Nat.le_refl _⟩ rfl (fun H locs hH => ?_)
          refine lv_iload_n hx hb dX10_redundantConstraintCount_49 rfl (lv_at hl 1 rfl) ?_
          refine w_ieq_f (tgt := 57) hx hb dX10_redundantConstraintCount_50 (by decide) (fun c12 => ?_) (fun c12 => ?_)
          · replace hF := ifn c12 hF
            obtain rfl := se1 hF
            exact Jb9F Bool.false_ne_true _ _ hH
          · replace hF := ifp c12 hF
            obtain rfl := se1 hF
            exact Jb9T rfl _ _ hH
  exact Lr4 NF _ hLr4 _ _ _ hH (lv_sub hl [3, 2, 1, 0] rfl)

theorem dX10_write_0 : decode cX10_write 0 = .ok (.aload_n 0, 1) := by decide +kernel
theorem dX10_write_1 : decode cX10_write 1 = .ok (.getfield 79, 3) := by decide +kernel
theorem dX10_write_4 : decode cX10_write 4 = .ok (.aload_n 0, 1) := by decide +kernel
theorem dX10_write_5 : decode cX10_write 5 = .ok (.getfield 360, 3) := by decide +kernel
theorem dX10_write_8 : decode cX10_write 8 = .ok (.iload_n 1, 1) := by decide +kernel
theorem dX10_write_9 : decode cX10_write 9 = .ok (.iastore, 1) := by decide +kernel
theorem dX10_write_10 : decode cX10_write 10 = .ok (.aload_n 0, 1) := by decide +kernel
theorem dX10_write_11 : decode cX10_write 11 = .ok (.dup, 1) := by decide +kernel
theorem dX10_write_12 : decode cX10_write 12 = .ok (.getfield 360, 3) := by decide +kernel
theorem dX10_write_15 : decode cX10_write 15 = .ok (.iconst 1, 1) := by decide +kernel
theorem dX10_write_16 : decode cX10_write 16 = .ok (.iadd, 1) := by decide +kernel
theorem dX10_write_17 : decode cX10_write 17 = .ok (.putfield 360, 3) := by decide +kernel
theorem dX10_write_20 : decode cX10_write 20 = .ok (.return_, 1) := by decide +kernel
set_option maxHeartbeats 4000000 in
set_option maxRecDepth 100000 in
theorem c_X10_write {l : Launch} {g : Gh} {w : Wd} {k0 : Nat} {v_c : Int32} {wz : Wd} (hF : f_X10_write w k0 v_c = some wz) (hk0 : zct zM k0 = 10) : Met l yX10_write (Cond.code yX10_write cX10_write 2 none :: TT) (rmd 0) (Pcw zM g w [.ref (g.2.2 k0), .int (v_c)]) (Qw zM g wz none) 0 0 (zA zM g) := by
  refine mt_start (by decide) (Nat.le_of_ble_eq_true rfl) ?_
  intro p e s m args below meth c H locs ls X hr hl hH
  have hx := X.1
  have hb := X.2.1
  have hml := X.2.2.1
  have hown := X.2.2.2.1
  have ht := X.2.2.2.2.1
  have hl : lv_has ls 2 [(0, .ref (g.2.2 (k0))), (1, .int (v_c))] := hl
  unfold f_X10_write at hF
  refine lv_aload_n hx hb dX10_write_0 rfl (lv_at hl 0 rfl) ?_
  refine w_getr X hH hk0 fs_10_40 lk_10_79 dX10_write_1 ?_
  refine lv_aload_n hx hb dX10_write_4 rfl (lv_at hl 0 rfl) ?_
  refine w_geti X hH hk0 fs_10_41 lk_10_360 dX10_write_5 ?_
  refine lv_iload_n hx hb dX10_write_8 rfl (lv_at hl 1 rfl) ?_
  obtain ⟨w1, h1, hF⟩ := ob hF
  refine w_iast X hH h1 (rt_M_10_40 hk0) dX10_write_9 (fun H locs hH => ?_)
  refine lv_aload_n hx hb dX10_write_10 rfl (lv_at hl 0 rfl) ?_
  refine lv_dup hx hb dX10_write_11 rfl ?_
  refine w_geti X hH hk0 fs_10_41 lk_10_360 dX10_write_12 ?_
  refine lv_iconst (v := (1 : Int32)) hx hb dX10_write_15 (by decide) ?_
  refine lv_iadd hx hb dX10_write_16 ?_
  obtain ⟨w2, h2, hF⟩ := ob hF
  refine w_puti X hH h2 hk0 fs_10_41 nf_10_41 lk_10_360 dX10_write_17 (fun H locs hH => ?_)
  obtain rfl := se1 hF
  exact w_vret X hH hr dX10_write_20

theorem dX10_writeName_0 : decode cX10_writeName 0 = .ok (.bipush 25, 2) := by decide +kernel
theorem dX10_writeName_2 : decode cX10_writeName 2 = .ok (.istore_n 3, 1) := by decide +kernel
theorem dX10_writeName_3 : decode cX10_writeName 3 = .ok (.iload_n 3, 1) := by decide +kernel
theorem dX10_writeName_4 : decode cX10_writeName 4 = .ok (.ifCond .lt 36, 3) := by decide +kernel
theorem dX10_writeName_7 : decode cX10_writeName 7 = .ok (.lload_n 1, 1) := by decide +kernel
theorem dX10_writeName_8 : decode cX10_writeName 8 = .ok (.iload_n 3, 1) := by decide +kernel
theorem dX10_writeName_9 : decode cX10_writeName 9 = .ok (.lshr, 1) := by decide +kernel
theorem dX10_writeName_10 : decode cX10_writeName 10 = .ok (.ldc2_w 363, 3) := by decide +kernel
theorem dX10_writeName_13 : decode cX10_writeName 13 = .ok (.land, 1) := by decide +kernel
theorem dX10_writeName_14 : decode cX10_writeName 14 = .ok (.lconst 0, 1) := by decide +kernel
theorem dX10_writeName_15 : decode cX10_writeName 15 = .ok (.lcmp, 1) := by decide +kernel
theorem dX10_writeName_16 : decode cX10_writeName 16 = .ok (.ifCond .le 18, 3) := by decide +kernel
theorem dX10_writeName_19 : decode cX10_writeName 19 = .ok (.aload_n 0, 1) := by decide +kernel
theorem dX10_writeName_20 : decode cX10_writeName 20 = .ok (.bipush 96, 2) := by decide +kernel
theorem dX10_writeName_22 : decode cX10_writeName 22 = .ok (.lload_n 1, 1) := by decide +kernel
theorem dX10_writeName_23 : decode cX10_writeName 23 = .ok (.iload_n 3, 1) := by decide +kernel
theorem dX10_writeName_24 : decode cX10_writeName 24 = .ok (.lshr, 1) := by decide +kernel
theorem dX10_writeName_25 : decode cX10_writeName 25 = .ok (.ldc2_w 363, 3) := by decide +kernel
theorem dX10_writeName_28 : decode cX10_writeName 28 = .ok (.land, 1) := by decide +kernel
theorem dX10_writeName_29 : decode cX10_writeName 29 = .ok (.l2i, 1) := by decide +kernel
theorem dX10_writeName_30 : decode cX10_writeName 30 = .ok (.iadd, 1) := by decide +kernel
theorem dX10_writeName_31 : decode cX10_writeName 31 = .ok (.invokevirtual 365, 3) := by decide +kernel
theorem dX10_writeName_34 : decode cX10_writeName 34 = .ok (.iinc 3 (-5), 3) := by decide +kernel
theorem dX10_writeName_37 : decode cX10_writeName 37 = .ok (.goto (-34), 3) := by decide +kernel
theorem dX10_writeName_40 : decode cX10_writeName 40 = .ok (.return_, 1) := by decide +kernel
set_option maxHeartbeats 4000000 in
set_option maxRecDepth 100000 in
theorem c_X10_writeName {l : Launch} {g : Gh} {w : Wd} {k0 : Nat} {v_name : Int64} {wz : Wd} (hF : f_X10_writeName w k0 v_name = some wz) (hk0 : zct zM k0 = 10) : Met l yX10_writeName (Cond.code yX10_writeName cX10_writeName 4 none :: TT) (rmd 1) (Pcw zM g w [.ref (g.2.2 k0), .long (v_name)]) (Qw zM g wz none) 0 0 (zA zM g) := by
  refine mt_start (by decide) (Nat.le_of_ble_eq_true rfl) ?_
  intro p e s m args below meth c H locs ls X hr hl hH
  have hx := X.1
  have hb := X.2.1
  have hml := X.2.2.1
  have hown := X.2.2.2.1
  have ht := X.2.2.2.2.1
  have hl : lv_has ls 4 [(0, .ref (g.2.2 (k0))), (1, .long (v_name))] := hl
  unfold f_X10_writeName at hF
  refine lv_bipush (v := (25 : Int32)) hx hb dX10_writeName_0 (by decide) ?_
  refine lv_istore_n (lv' := [(3, .int ((25 : Int32))), (0, .ref (g.2.2 (k0))), (1, .long (v_name))]) hx hb dX10_writeName_2 rfl hl (by decide) rfl (fun ls hl => ?_)
  obtain ⟨r2, hLr2, hF⟩ := ob hF
  have Jr2 : ∀ (H : Heap) (locs : List Loc) (ls : Array Slot), HW zM g r2 s.heap H locs → lv_has ls 4 [(0, .ref (g.2.2 (k0))), (1, .long (v_name))] → W p l e (rmd 1) s m args below meth c H locs 0 0 (MQ below (Qw zM g wz none) args s 0 0 (zA zM g)) (F0 m 40 ls []) := by
    intro H locs ls hH hl
    obtain rfl := se1 hF
    exact w_vret X hH hr dX10_writeName_40
  have Lr2 : ∀ (n : Nat) (s1 : Int32 × Wd), lp (b_X10_writeName_1 v_name k0) n s1 = some r2 → ∀ (H : Heap) (locs : List Loc) (ls : Array Slot), HW zM g s1.2 s.heap H locs → lv_has ls 4 [(0, .ref (g.2.2 (k0))), (1, .long (v_name)), (3, .int (s1.1))] → W p l e (rmd 1) s m args below meth c H locs 0 0 (MQ below (Qw zM g wz none) args s 0 0 (zA zM g)) (F0 m 3 ls []) := by
    intro n
    induction n with
    | zero => intro s1 hL; exact lp_0 hL
    | succ n ih =>
      intro s1 hL H locs ls hH hl
      obtain ⟨bb, hF, hL⟩ := lp_s hL
      unfold b_X10_writeName_1 at hF
      refine lv_iload_n hx hb dX10_writeName_3 rfl (lv_at hl 2 rfl) ?_
      refine w_zge_f (tgt := 40) hx hb dX10_writeName_4 (by decide) (fun c3 => ?_) (fun c3 => ?_)
      · replace hF := ifn c3 hF
        obtain rfl := se1 hF
        subst hL
        exact Jr2 _ _ _ hH (lv_sub hl [0, 1] rfl)
      · replace hF := ifp c3 hF
        obtain ⟨s4, hs4, hF⟩ := ob hF
        have Js4 : ∀ (H : Heap) (locs : List Loc) (ls : Array Slot), HW zM g s4 s.heap H locs → lv_has ls 4 [(0, .ref (g.2.2 (k0))), (1, .long (v_name)), (3, .int (s1.1))] → W p l e (rmd 1) s m args below meth c H locs 0 0 (MQ below (Qw zM g wz none) args s 0 0 (zA zM g)) (F0 m 34 ls []) := by
          intro H locs ls hH hl
          refine lv_iinc (v := (s1.1 + (-5 : Int32))) (lv' := [(3, .int ((s1.1 + (-5 : Int32)))), (0, .ref (g.2.2 (k0))), (1, .long (v_name))]) hx hb dX10_writeName_34 hl (k := 2) rfl rfl (by decide) rfl (fun ls hl => ?_)
          refine lv_goto (tgt := 3) hx hb dX10_writeName_37 (by decide) ?_
          obtain rfl := se1 hF
          exact ih _ hL _ _ _ hH (lv_sub hl [1, 2, 0] rfl)
        have hF := hs4
        refine lv_lload_n hx hb dX10_writeName_7 rfl (lv_at hl 1 rfl) ?_
        refine lv_iload_n hx hb dX10_writeName_8 rfl (lv_at hl 2 rfl) ?_
        refine w_lshr hx hb dX10_writeName_9 ?_
        refine lv_ldc2 (own := RX10) (v := (31 : Int64)) hx hb hown (ht _ tw_7_146) dX10_writeName_10 ?_
        refine lv_land hx hb dX10_writeName_13 ?_
        refine lv_lconst (v := 0) hx hb dX10_writeName_14 (by decide) ?_
        refine w_lgt_f (tgt := 34) hx hb dX10_writeName_15 dX10_writeName_16 (by decide) (fun c5 => ?_) (fun c5 => ?_)
        · replace hF := ifn c5 hF
          obtain rfl := se1 hF
          exact Js4 _ _ _ hH (lv_sub hl [0, 1, 2] rfl)
        · replace hF := ifp c5 hF
          refine lv_aload_n hx hb dX10_writeName_19 rfl (lv_at hl 0 rfl) ?_
          refine lv_bipush (v := (96 : Int32)) hx hb dX10_writeName_20 (by decide) ?_
          refine lv_lload_n hx hb dX10_writeName_22 rfl (lv_at hl 1 rfl) ?_
          refine lv_iload_n hx hb dX10_writeName_23 rfl (lv_at hl 2 rfl) ?_
          refine w_lshr hx hb dX10_writeName_24 ?_
          refine lv_ldc2 (own := RX10) (v := (31 : Int64)) hx hb hown (ht _ tw_7_146) dX10_writeName_25 ?_
          refine lv_land hx hb dX10_writeName_28 ?_
          refine w_l2i hx hb dX10_writeName_29 ?_
          refine lv_iadd hx hb dX10_writeName_30 ?_
          obtain ⟨w6, h6, hF⟩ := ob hF
          refine w_callV (As := [.int (((96 : Int32) + (((jlshr (v_name) (s1.1)) &&& (31 : Int64))).toInt32))]) (k := k0) (rest := []) (st1 := []) X hH (c_X10_write (l := l) (g := g) (w := s1.2) (k0 := k0) (v_c := ((96 : Int32) + (((jlshr (v_name) (s1.1)) &&& (31 : Int64))).toInt32)) h6 hk0) (Or.inl tw_7_147) ms_X10_write im_X10_write hk0 cn_10 ⟨Nat.le_of_ble_eq_true rfl, Nat.le_of_ble_eq_true rfl⟩ rfl rfl hl.1 (Nat.le_of_ble_eq_true rfl) dX10_writeName_31 ⟨Nat.le_refl _, Nat.le_refl _⟩ rfl (fun H locs hH => ?_)
          obtain rfl := se1 hF
          exact Js4 _ _ _ hH (lv_sub hl [0, 1, 2] rfl)
  exact Lr2 NF _ hLr2 _ _ _ hH (lv_sub hl [1, 2, 0] rfl)

theorem dX10_layDump_0 : decode cX10_layDump 0 = .ok (.aload_n 0, 1) := by decide +kernel
theorem dX10_layDump_1 : decode cX10_layDump 1 = .ok (.iconst 0, 1) := by decide +kernel
theorem dX10_layDump_2 : decode cX10_layDump 2 = .ok (.putfield 360, 3) := by decide +kernel
theorem dX10_layDump_5 : decode cX10_layDump 5 = .ok (.iconst 0, 1) := by decide +kernel
theorem dX10_layDump_6 : decode cX10_layDump 6 = .ok (.istore_n 1, 1) := by decide +kernel
theorem dX10_layDump_7 : decode cX10_layDump 7 = .ok (.iload_n 1, 1) := by decide +kernel
theorem dX10_layDump_8 : decode cX10_layDump 8 = .ok (.aload_n 0, 1) := by decide +kernel
theorem dX10_layDump_9 : decode cX10_layDump 9 = .ok (.getfield 13, 3) := by decide +kernel
theorem dX10_layDump_12 : decode cX10_layDump 12 = .ok (.iconst 0, 1) := by decide +kernel
theorem dX10_layDump_13 : decode cX10_layDump 13 = .ok (.iaload, 1) := by decide +kernel
theorem dX10_layDump_14 : decode cX10_layDump 14 = .ok (.if_icmp .ge 87, 3) := by decide +kernel
theorem dX10_layDump_17 : decode cX10_layDump 17 = .ok (.aload_n 0, 1) := by decide +kernel
theorem dX10_layDump_18 : decode cX10_layDump 18 = .ok (.getfield 55, 3) := by decide +kernel
theorem dX10_layDump_21 : decode cX10_layDump 21 = .ok (.iload_n 1, 1) := by decide +kernel
theorem dX10_layDump_22 : decode cX10_layDump 22 = .ok (.iaload, 1) := by decide +kernel
theorem dX10_layDump_23 : decode cX10_layDump 23 = .ok (.ifCond .ne 6, 3) := by decide +kernel
theorem dX10_layDump_26 : decode cX10_layDump 26 = .ok (.goto 69, 3) := by decide +kernel
theorem dX10_layDump_29 : decode cX10_layDump 29 = .ok (.aload_n 0, 1) := by decide +kernel
theorem dX10_layDump_30 : decode cX10_layDump 30 = .ok (.aload_n 0, 1) := by decide +kernel
theorem dX10_layDump_31 : decode cX10_layDump 31 = .ok (.getfield 23, 3) := by decide +kernel
theorem dX10_layDump_34 : decode cX10_layDump 34 = .ok (.iload_n 1, 1) := by decide +kernel
theorem dX10_layDump_35 : decode cX10_layDump 35 = .ok (.laload, 1) := by decide +kernel
theorem dX10_layDump_36 : decode cX10_layDump 36 = .ok (.invokevirtual 368, 3) := by decide +kernel
theorem dX10_layDump_39 : decode cX10_layDump 39 = .ok (.iconst 0, 1) := by decide +kernel
theorem dX10_layDump_40 : decode cX10_layDump 40 = .ok (.istore_n 2, 1) := by decide +kernel
theorem dX10_layDump_41 : decode cX10_layDump 41 = .ok (.iload_n 2, 1) := by decide +kernel
theorem dX10_layDump_42 : decode cX10_layDump 42 = .ok (.aload_n 0, 1) := by decide +kernel
theorem dX10_layDump_43 : decode cX10_layDump 43 = .ok (.getfield 17, 3) := by decide +kernel
theorem dX10_layDump_46 : decode cX10_layDump 46 = .ok (.iconst 0, 1) := by decide +kernel
theorem dX10_layDump_47 : decode cX10_layDump 47 = .ok (.iaload, 1) := by decide +kernel
theorem dX10_layDump_48 : decode cX10_layDump 48 = .ok (.if_icmp .ge 41, 3) := by decide +kernel
theorem dX10_layDump_51 : decode cX10_layDump 51 = .ok (.aload_n 0, 1) := by decide +kernel
theorem dX10_layDump_52 : decode cX10_layDump 52 = .ok (.getfield 55, 3) := by decide +kernel
theorem dX10_layDump_55 : decode cX10_layDump 55 = .ok (.iload_n 1, 1) := by decide +kernel
theorem dX10_layDump_56 : decode cX10_layDump 56 = .ok (.iaload, 1) := by decide +kernel
theorem dX10_layDump_57 : decode cX10_layDump 57 = .ok (.iload_n 2, 1) := by decide +kernel
theorem dX10_layDump_58 : decode cX10_layDump 58 = .ok (.invokestatic 210, 3) := by decide +kernel
theorem dX10_layDump_61 : decode cX10_layDump 61 = .ok (.ifCond .ne 6, 3) := by decide +kernel
theorem dX10_layDump_64 : decode cX10_layDump 64 = .ok (.goto 19, 3) := by decide +kernel
theorem dX10_layDump_67 : decode cX10_layDump 67 = .ok (.aload_n 0, 1) := by decide +kernel
theorem dX10_layDump_68 : decode cX10_layDump 68 = .ok (.bipush 32, 2) := by decide +kernel
theorem dX10_layDump_70 : decode cX10_layDump 70 = .ok (.invokevirtual 365, 3) := by decide +kernel
theorem dX10_layDump_73 : decode cX10_layDump 73 = .ok (.aload_n 0, 1) := by decide +kernel
theorem dX10_layDump_74 : decode cX10_layDump 74 = .ok (.aload_n 0, 1) := by decide +kernel
theorem dX10_layDump_75 : decode cX10_layDump 75 = .ok (.getfield 27, 3) := by decide +kernel
theorem dX10_layDump_78 : decode cX10_layDump 78 = .ok (.iload_n 2, 1) := by decide +kernel
theorem dX10_layDump_79 : decode cX10_layDump 79 = .ok (.laload, 1) := by decide +kernel
theorem dX10_layDump_80 : decode cX10_layDump 80 = .ok (.invokevirtual 368, 3) := by decide +kernel
theorem dX10_layDump_83 : decode cX10_layDump 83 = .ok (.iinc 2 1, 3) := by decide +kernel
theorem dX10_layDump_86 : decode cX10_layDump 86 = .ok (.goto (-45), 3) := by decide +kernel
theorem dX10_layDump_89 : decode cX10_layDump 89 = .ok (.aload_n 0, 1) := by decide +kernel
theorem dX10_layDump_90 : decode cX10_layDump 90 = .ok (.bipush 59, 2) := by decide +kernel
theorem dX10_layDump_92 : decode cX10_layDump 92 = .ok (.invokevirtual 365, 3) := by decide +kernel
theorem dX10_layDump_95 : decode cX10_layDump 95 = .ok (.iinc 1 1, 3) := by decide +kernel
theorem dX10_layDump_98 : decode cX10_layDump 98 = .ok (.goto (-91), 3) := by decide +kernel
theorem dX10_layDump_101 : decode cX10_layDump 101 = .ok (.return_, 1) := by decide +kernel
set_option maxHeartbeats 4000000 in
set_option maxRecDepth 100000 in
theorem c_X10_layDump {l : Launch} {g : Gh} {w : Wd} {k0 : Nat} {wz : Wd} (hF : f_X10_layDump w k0 = some wz) (hk0 : zct zM k0 = 10) : Met l yX10_layDump (Cond.code yX10_layDump cX10_layDump 3 none :: TT) (rmd 2) (Pcw zM g w [.ref (g.2.2 k0)]) (Qw zM g wz none) 0 0 (zA zM g) := by
  refine mt_start (by decide) (Nat.le_of_ble_eq_true rfl) ?_
  intro p e s m args below meth c H locs ls X hr hl hH
  have hx := X.1
  have hb := X.2.1
  have hml := X.2.2.1
  have hown := X.2.2.2.1
  have ht := X.2.2.2.2.1
  have hl : lv_has ls 3 [(0, .ref (g.2.2 (k0)))] := hl
  unfold f_X10_layDump at hF
  refine lv_aload_n hx hb dX10_layDump_0 rfl (lv_at hl 0 rfl) ?_
  refine lv_iconst (v := (0 : Int32)) hx hb dX10_layDump_1 (by decide) ?_
  obtain ⟨w1, h1, hF⟩ := ob hF
  refine w_puti X hH h1 hk0 fs_10_41 nf_10_41 lk_10_360 dX10_layDump_2 (fun H locs hH => ?_)
  refine lv_iconst (v := (0 : Int32)) hx hb dX10_layDump_5 (by decide) ?_
  refine lv_istore_n (lv' := [(1, .int ((0 : Int32))), (0, .ref (g.2.2 (k0)))]) hx hb dX10_layDump_6 rfl hl (by decide) rfl (fun ls hl => ?_)
  obtain ⟨r3, hLr3, hF⟩ := ob hF
  have Jr3 : ∀ (H : Heap) (locs : List Loc) (ls : Array Slot), HW zM g r3 s.heap H locs → lv_has ls 3 [(0, .ref (g.2.2 (k0)))] → W p l e (rmd 2) s m args below meth c H locs 0 0 (MQ below (Qw zM g wz none) args s 0 0 (zA zM g)) (F0 m 101 ls []) := by
    intro H locs ls hH hl
    obtain rfl := se1 hF
    exact w_vret X hH hr dX10_layDump_101
  have Lr3 : ∀ (n : Nat) (s2 : Int32 × Wd), lp (b_X10_layDump_1 k0) n s2 = some r3 → ∀ (H : Heap) (locs : List Loc) (ls : Array Slot), HW zM g s2.2 s.heap H locs → lv_has ls 3 [(0, .ref (g.2.2 (k0))), (1, .int (s2.1))] → W p l e (rmd 2) s m args below meth c H locs 0 0 (MQ below (Qw zM g wz none) args s 0 0 (zA zM g)) (F0 m 7 ls []) := by
    intro n
    induction n with
    | zero => intro s2 hL; exact lp_0 hL
    | succ n ih =>
      intro s2 hL H locs ls hH hl
      obtain ⟨bb, hF, hL⟩ := lp_s hL
      unfold b_X10_layDump_1 at hF
      refine lv_iload_n hx hb dX10_layDump_7 rfl (lv_at hl 1 rfl) ?_
      refine lv_aload_n hx hb dX10_layDump_8 rfl (lv_at hl 0 rfl) ?_
      refine w_getr X hH hk0 fs_10_10 lk_10_13 dX10_layDump_9 ?_
      refine lv_iconst (v := (0 : Int32)) hx hb dX10_layDump_12 (by decide) ?_
      obtain ⟨x4, h4, hF⟩ := ob hF
      refine w_iald X hH h4 (rt_M_10_10 hk0) dX10_layDump_13 ?_
      refine w_ilt_f (tgt := 101) hx hb dX10_layDump_14 (by decide) (fun c5 => ?_) (fun c5 => ?_)
      · replace hF := ifn c5 hF
        obtain rfl := se1 hF
        subst hL
        exact Jr3 _ _ _ hH (lv_sub hl [0] rfl)
      · replace hF := ifp c5 hF
        refine lv_aload_n hx hb dX10_layDump_17 rfl (lv_at hl 0 rfl) ?_
        refine w_getr X hH hk0 fs_10_24 lk_10_55 dX10_layDump_18 ?_
        refine lv_iload_n hx hb dX10_layDump_21 rfl (lv_at hl 1 rfl) ?_
        obtain ⟨x6, h6, hF⟩ := ob hF
        refine w_iald X hH h6 (rt_M_10_24 hk0) dX10_layDump_22 ?_
        refine w_zeq_f (tgt := 29) hx hb dX10_layDump_23 (by decide) (fun c7 => ?_) (fun c7 => ?_)
        · replace hF := ifn c7 hF
          refine lv_aload_n hx hb dX10_layDump_29 rfl (lv_at hl 0 rfl) ?_
          refine lv_aload_n hx hb dX10_layDump_30 rfl (lv_at hl 0 rfl) ?_
          refine w_getr X hH hk0 fs_10_13 lk_10_23 dX10_layDump_31 ?_
          refine lv_iload_n hx hb dX10_layDump_34 rfl (lv_at hl 1 rfl) ?_
          obtain ⟨x8, h8, hF⟩ := ob hF
          refine w_lald X hH h8 (rt_M_10_13 hk0) dX10_layDump_35 ?_
          obtain ⟨w9, h9, hF⟩ := ob hF
          refine w_callV (As := [.long (x8)]) (k := k0) (rest := []) (st1 := []) X hH (c_X10_writeName (l := l) (g := g) (w := s2.2) (k0 := k0) (v_name := x8) h9 hk0) (Or.inl tw_7_142) ms_X10_writeName im_X10_writeName hk0 cn_10 ⟨Nat.le_of_ble_eq_true rfl, Nat.le_of_ble_eq_true rfl⟩ rfl rfl hl.1 (Nat.le_of_ble_eq_true rfl) dX10_layDump_36 ⟨Nat.le_refl _, Nat.le_refl _⟩ rfl (fun H locs hH => ?_)
          refine lv_iconst (v := (0 : Int32)) hx hb dX10_layDump_39 (by decide) ?_
          refine lv_istore_n (lv' := [(2, .int ((0 : Int32))), (0, .ref (g.2.2 (k0))), (1, .int (s2.1))]) hx hb dX10_layDump_40 rfl hl (by decide) rfl (fun ls hl => ?_)
          obtain ⟨r11, hLr11, hF⟩ := ob hF
          have Jr11 : ∀ (H : Heap) (locs : List Loc) (ls : Array Slot), HW zM g r11 s.heap H locs → lv_has ls 3 [(0, .ref (g.2.2 (k0))), (1, .int (s2.1))] → W p l e (rmd 2) s m args below meth c H locs 0 0 (MQ below (Qw zM g wz none) args s 0 0 (zA zM g)) (F0 m 89 ls []) := by
            intro H locs ls hH hl
            refine lv_aload_n hx hb dX10_layDump_89 rfl (lv_at hl 0 rfl) ?_
            refine lv_bipush (v := (59 : Int32)) hx hb dX10_layDump_90 (by decide) ?_
            obtain ⟨w19, h19, hF⟩ := ob hF
            refine w_callV (As := [.int ((59 : Int32))]) (k := k0) (rest := []) (st1 := []) X hH (c_X10_write (l := l) (g := g) (w := r11) (k0 := k0) (v_c := (59 : Int32)) h19 hk0) (Or.inl tw_7_147) ms_X10_write im_X10_write hk0 cn_10 ⟨Nat.le_of_ble_eq_true rfl, Nat.le_of_ble_eq_true rfl⟩ rfl rfl hl.1 (Nat.le_of_ble_eq_true rfl) dX10_layDump_92 ⟨Nat.le_refl _, Nat.le_refl _⟩ rfl (fun H locs hH => ?_)
            refine lv_iinc (v := (s2.1 + (1 : Int32))) (lv' := [(1, .int ((s2.1 + (1 : Int32)))), (0, .ref (g.2.2 (k0)))]) hx hb dX10_layDump_95 hl (k := 1) rfl rfl (by decide) rfl (fun ls hl => ?_)
            refine lv_goto (tgt := 7) hx hb dX10_layDump_98 (by decide) ?_
            obtain rfl := se1 hF
            exact ih _ hL _ _ _ hH (lv_sub hl [1, 0] rfl)
          have Lr11 : ∀ (n : Nat) (s10 : Int32 × Wd), lp (b_X10_layDump_2 k0 s2) n s10 = some r11 → ∀ (H : Heap) (locs : List Loc) (ls : Array Slot), HW zM g s10.2 s.heap H locs → lv_has ls 3 [(0, .ref (g.2.2 (k0))), (1, .int (s2.1)), (2, .int (s10.1))] → W p l e (rmd 2) s m args below meth c H locs 0 0 (MQ below (Qw zM g wz none) args s 0 0 (zA zM g)) (F0 m 41 ls []) := by
            intro n
            induction n with
            | zero => intro s10 hL; exact lp_0 hL
            | succ n ih =>
              intro s10 hL H locs ls hH hl
              obtain ⟨bb, hF, hL⟩ := lp_s hL
              unfold b_X10_layDump_2 at hF
              refine lv_iload_n hx hb dX10_layDump_41 rfl (lv_at hl 2 rfl) ?_
              refine lv_aload_n hx hb dX10_layDump_42 rfl (lv_at hl 0 rfl) ?_
              refine w_getr X hH hk0 fs_10_11 lk_10_17 dX10_layDump_43 ?_
              refine lv_iconst (v := (0 : Int32)) hx hb dX10_layDump_46 (by decide) ?_
              obtain ⟨x12, h12, hF⟩ := ob hF
              refine w_iald X hH h12 (rt_M_10_11 hk0) dX10_layDump_47 ?_
              refine w_ilt_f (tgt := 89) hx hb dX10_layDump_48 (by decide) (fun c13 => ?_) (fun c13 => ?_)
              · replace hF := ifn c13 hF
                obtain rfl := se1 hF
                subst hL
                exact Jr11 _ _ _ hH (lv_sub hl [0, 1] rfl)
              · replace hF := ifp c13 hF
                refine lv_aload_n hx hb dX10_layDump_51 rfl (lv_at hl 0 rfl) ?_
                refine w_getr X hH hk0 fs_10_24 lk_10_55 dX10_layDump_52 ?_
                refine lv_iload_n hx hb dX10_layDump_55 rfl (lv_at hl 1 rfl) ?_
                obtain ⟨x14, h14, hF⟩ := ob hF
                refine w_iald X hH h14 (rt_M_10_24 hk0) dX10_layDump_56 ?_
                refine lv_iload_n hx hb dX10_layDump_57 rfl (lv_at hl 2 rfl) ?_
                refine w_callS (As := [.int (x14), .int (s10.1)]) (rest := []) (st1 := [.int (bI ((f_X10_has (x14) (s10.1))))]) X hH (c_X10_has (l := l) (g := g) (w := s10.2) (v_set := x14) (v_k := s10.1) rfl) (Or.inl tw_5_41) ms_X10_has tw_5_42 ⟨Nat.le_of_ble_eq_true rfl, Nat.le_of_ble_eq_true rfl⟩ rfl rfl hl.1 (Nat.le_of_ble_eq_true rfl) dX10_layDump_58 ⟨Nat.le_refl _, Nat.le_refl _⟩ rfl (fun H locs hH => ?_)
                refine w_b_t (tgt := 67) hx hb dX10_layDump_61 (by decide) (fun c15 => ?_) (fun c15 => ?_)
                · replace hF := ifn (fun z => z c15) hF
                  refine lv_aload_n hx hb dX10_layDump_67 rfl (lv_at hl 0 rfl) ?_
                  refine lv_bipush (v := (32 : Int32)) hx hb dX10_layDump_68 (by decide) ?_
                  obtain ⟨w16, h16, hF⟩ := ob hF
                  refine w_callV (As := [.int ((32 : Int32))]) (k := k0) (rest := []) (st1 := []) X hH (c_X10_write (l := l) (g := g) (w := s10.2) (k0 := k0) (v_c := (32 : Int32)) h16 hk0) (Or.inl tw_7_147) ms_X10_write im_X10_write hk0 cn_10 ⟨Nat.le_of_ble_eq_true rfl, Nat.le_of_ble_eq_true rfl⟩ rfl rfl hl.1 (Nat.le_of_ble_eq_true rfl) dX10_layDump_70 ⟨Nat.le_refl _, Nat.le_refl _⟩ rfl (fun H locs hH => ?_)
                  refine lv_aload_n hx hb dX10_layDump_73 rfl (lv_at hl 0 rfl) ?_
                  refine lv_aload_n hx hb dX10_layDump_74 rfl (lv_at hl 0 rfl) ?_
                  refine w_getr X hH hk0 fs_10_14 lk_10_27 dX10_layDump_75 ?_
                  refine lv_iload_n hx hb dX10_layDump_78 rfl (lv_at hl 2 rfl) ?_
                  obtain ⟨x17, h17, hF⟩ := ob hF
                  refine w_lald X hH h17 (rt_M_10_14 hk0) dX10_layDump_79 ?_
                  obtain ⟨w18, h18, hF⟩ := ob hF
                  refine w_callV (As := [.long (x17)]) (k := k0) (rest := []) (st1 := []) X hH (c_X10_writeName (l := l) (g := g) (w := w16) (k0 := k0) (v_name := x17) h18 hk0) (Or.inl tw_7_142) ms_X10_writeName im_X10_writeName hk0 cn_10 ⟨Nat.le_of_ble_eq_true rfl, Nat.le_of_ble_eq_true rfl⟩ rfl rfl hl.1 (Nat.le_of_ble_eq_true rfl) dX10_layDump_80 ⟨Nat.le_refl _, Nat.le_refl _⟩ rfl (fun H locs hH => ?_)
                  refine lv_iinc (v := (s10.1 + (1 : Int32))) (lv' := [(2, .int ((s10.1 + (1 : Int32)))), (0, .ref (g.2.2 (k0))), (1, .int (s2.1))]) hx hb dX10_layDump_83 hl (k := 2) rfl rfl (by decide) rfl (fun ls hl => ?_)
                  refine lv_goto (tgt := 41) hx hb dX10_layDump_86 (by decide) ?_
                  obtain rfl := se1 hF
                  exact ih _ hL _ _ _ hH (lv_sub hl [1, 2, 0] rfl)
                · replace hF := ifp c15 hF
                  refine lv_goto (tgt := 83) hx hb dX10_layDump_64 (by decide) ?_
                  refine lv_iinc (v := (s10.1 + (1 : Int32))) (lv' := [(2, .int ((s10.1 + (1 : Int32)))), (0, .ref (g.2.2 (k0))), (1, .int (s2.1))]) hx hb dX10_layDump_83 hl (k := 2) rfl rfl (by decide) rfl (fun ls hl => ?_)
                  refine lv_goto (tgt := 41) hx hb dX10_layDump_86 (by decide) ?_
                  obtain rfl := se1 hF
                  exact ih _ hL _ _ _ hH (lv_sub hl [1, 2, 0] rfl)
          exact Lr11 NF _ hLr11 _ _ _ hH (lv_sub hl [1, 2, 0] rfl)
        · replace hF := ifp c7 hF
          refine lv_goto (tgt := 95) hx hb dX10_layDump_26 (by decide) ?_
          refine lv_iinc (v := (s2.1 + (1 : Int32))) (lv' := [(1, .int ((s2.1 + (1 : Int32)))), (0, .ref (g.2.2 (k0)))]) hx hb dX10_layDump_95 hl (k := 1) rfl rfl (by decide) rfl (fun ls hl => ?_)
          refine lv_goto (tgt := 7) hx hb dX10_layDump_98 (by decide) ?_
          obtain rfl := se1 hF
          exact ih _ hL _ _ _ hH (lv_sub hl [1, 0] rfl)
  exact Lr3 NF _ hLr3 _ _ _ hH (lv_sub hl [1, 0] rfl)

theorem dX10_dumpLength_0 : decode cX10_dumpLength 0 = .ok (.aload_n 0, 1) := by decide +kernel
theorem dX10_dumpLength_1 : decode cX10_dumpLength 1 = .ok (.iconst 0, 1) := by decide +kernel
theorem dX10_dumpLength_2 : decode cX10_dumpLength 2 = .ok (.putfield 85, 3) := by decide +kernel
theorem dX10_dumpLength_5 : decode cX10_dumpLength 5 = .ok (.aload_n 0, 1) := by decide +kernel
theorem dX10_dumpLength_6 : decode cX10_dumpLength 6 = .ok (.invokevirtual 372, 3) := by decide +kernel
theorem dX10_dumpLength_9 : decode cX10_dumpLength 9 = .ok (.aload_n 0, 1) := by decide +kernel
theorem dX10_dumpLength_10 : decode cX10_dumpLength 10 = .ok (.getfield 360, 3) := by decide +kernel
theorem dX10_dumpLength_13 : decode cX10_dumpLength 13 = .ok (.ireturn, 1) := by decide +kernel
set_option maxHeartbeats 4000000 in
set_option maxRecDepth 100000 in
theorem c_X10_dumpLength {l : Launch} {g : Gh} {w : Wd} {k0 : Nat} {rz : Int32} {wz : Wd} (hF : f_X10_dumpLength w k0 = some (rz, wz)) (hk0 : zct zM k0 = 10) : Met l yX10_dumpLength (Cond.code yX10_dumpLength cX10_dumpLength 1 (some .int) :: TT) (rmd 3) (Pcw zM g w [.ref (g.2.2 k0)]) (Qw zM g wz (some (.int (rz)))) 0 0 (zA zM g) := by
  refine mt_start (by decide) (Nat.le_of_ble_eq_true rfl) ?_
  intro p e s m args below meth c H locs ls X hr hl hH
  have hx := X.1
  have hb := X.2.1
  have hml := X.2.2.1
  have hown := X.2.2.2.1
  have ht := X.2.2.2.2.1
  have hl : lv_has ls 1 [(0, .ref (g.2.2 (k0)))] := hl
  unfold f_X10_dumpLength at hF
  refine lv_aload_n hx hb dX10_dumpLength_0 rfl (lv_at hl 0 rfl) ?_
  refine lv_iconst (v := (0 : Int32)) hx hb dX10_dumpLength_1 (by decide) ?_
  obtain ⟨w1, h1, hF⟩ := ob hF
  refine w_puti X hH h1 hk0 fs_10_0 nf_10_0 lk_10_85 dX10_dumpLength_2 (fun H locs hH => ?_)
  refine lv_aload_n hx hb dX10_dumpLength_5 rfl (lv_at hl 0 rfl) ?_
  obtain ⟨w2, h2, hF⟩ := ob hF
  refine w_callV (As := []) (k := k0) (rest := []) (st1 := []) X hH (c_X10_layDump (l := l) (g := g) (w := w1) (k0 := k0) h2 hk0) (Or.inl tw_7_138) ms_X10_layDump im_X10_layDump hk0 cn_10 ⟨Nat.le_of_ble_eq_true rfl, Nat.le_of_ble_eq_true rfl⟩ rfl rfl hl.1 (Nat.le_of_ble_eq_true rfl) dX10_dumpLength_6 ⟨Nat.le_refl _, Nat.le_refl _⟩ rfl (fun H locs hH => ?_)
  refine lv_aload_n hx hb dX10_dumpLength_9 rfl (lv_at hl 0 rfl) ?_
  refine w_geti X hH hk0 fs_10_41 lk_10_360 dX10_dumpLength_10 ?_
  obtain ⟨rfl, rfl⟩ := se2 hF
  exact w_iret X hH hr dX10_dumpLength_13

theorem dX10_dumpByte_0 : decode cX10_dumpByte 0 = .ok (.aload_n 0, 1) := by decide +kernel
theorem dX10_dumpByte_1 : decode cX10_dumpByte 1 = .ok (.iconst 0, 1) := by decide +kernel
theorem dX10_dumpByte_2 : decode cX10_dumpByte 2 = .ok (.putfield 85, 3) := by decide +kernel
theorem dX10_dumpByte_5 : decode cX10_dumpByte 5 = .ok (.aload_n 0, 1) := by decide +kernel
theorem dX10_dumpByte_6 : decode cX10_dumpByte 6 = .ok (.invokevirtual 372, 3) := by decide +kernel
theorem dX10_dumpByte_9 : decode cX10_dumpByte 9 = .ok (.iload_n 1, 1) := by decide +kernel
theorem dX10_dumpByte_10 : decode cX10_dumpByte 10 = .ok (.i2l, 1) := by decide +kernel
theorem dX10_dumpByte_11 : decode cX10_dumpByte 11 = .ok (.lconst 0, 1) := by decide +kernel
theorem dX10_dumpByte_12 : decode cX10_dumpByte 12 = .ok (.aload_n 0, 1) := by decide +kernel
theorem dX10_dumpByte_13 : decode cX10_dumpByte 13 = .ok (.getfield 360, 3) := by decide +kernel
theorem dX10_dumpByte_16 : decode cX10_dumpByte 16 = .ok (.iconst 1, 1) := by decide +kernel
theorem dX10_dumpByte_17 : decode cX10_dumpByte 17 = .ok (.isub, 1) := by decide +kernel
theorem dX10_dumpByte_18 : decode cX10_dumpByte 18 = .ok (.i2l, 1) := by decide +kernel
theorem dX10_dumpByte_19 : decode cX10_dumpByte 19 = .ok (.invokestatic 120, 3) := by decide +kernel
theorem dX10_dumpByte_22 : decode cX10_dumpByte 22 = .ok (.ifCond .eq 12, 3) := by decide +kernel
theorem dX10_dumpByte_25 : decode cX10_dumpByte 25 = .ok (.aload_n 0, 1) := by decide +kernel
theorem dX10_dumpByte_26 : decode cX10_dumpByte 26 = .ok (.getfield 79, 3) := by decide +kernel
theorem dX10_dumpByte_29 : decode cX10_dumpByte 29 = .ok (.iload_n 1, 1) := by decide +kernel
theorem dX10_dumpByte_30 : decode cX10_dumpByte 30 = .ok (.iaload, 1) := by decide +kernel
theorem dX10_dumpByte_31 : decode cX10_dumpByte 31 = .ok (.goto 4, 3) := by decide +kernel
theorem dX10_dumpByte_34 : decode cX10_dumpByte 34 = .ok (.iconst (-1), 1) := by decide +kernel
theorem dX10_dumpByte_35 : decode cX10_dumpByte 35 = .ok (.ireturn, 1) := by decide +kernel
set_option maxHeartbeats 4000000 in
set_option maxRecDepth 100000 in
theorem c_X10_dumpByte {l : Launch} {g : Gh} {w : Wd} {k0 : Nat} {v_index : Int32} {rz : Int32} {wz : Wd} (hF : f_X10_dumpByte w k0 v_index = some (rz, wz)) (hk0 : zct zM k0 = 10) : Met l yX10_dumpByte (Cond.code yX10_dumpByte cX10_dumpByte 2 (some .int) :: TT) (rmd 3) (Pcw zM g w [.ref (g.2.2 k0), .int (v_index)]) (Qw zM g wz (some (.int (rz)))) 0 0 (zA zM g) := by
  refine mt_start (by decide) (Nat.le_of_ble_eq_true rfl) ?_
  intro p e s m args below meth c H locs ls X hr hl hH
  have hx := X.1
  have hb := X.2.1
  have hml := X.2.2.1
  have hown := X.2.2.2.1
  have ht := X.2.2.2.2.1
  have hl : lv_has ls 2 [(0, .ref (g.2.2 (k0))), (1, .int (v_index))] := hl
  unfold f_X10_dumpByte at hF
  refine lv_aload_n hx hb dX10_dumpByte_0 rfl (lv_at hl 0 rfl) ?_
  refine lv_iconst (v := (0 : Int32)) hx hb dX10_dumpByte_1 (by decide) ?_
  obtain ⟨w1, h1, hF⟩ := ob hF
  refine w_puti X hH h1 hk0 fs_10_0 nf_10_0 lk_10_85 dX10_dumpByte_2 (fun H locs hH => ?_)
  refine lv_aload_n hx hb dX10_dumpByte_5 rfl (lv_at hl 0 rfl) ?_
  obtain ⟨w2, h2, hF⟩ := ob hF
  refine w_callV (As := []) (k := k0) (rest := []) (st1 := []) X hH (c_X10_layDump (l := l) (g := g) (w := w1) (k0 := k0) h2 hk0) (Or.inl tw_7_138) ms_X10_layDump im_X10_layDump hk0 cn_10 ⟨Nat.le_of_ble_eq_true rfl, Nat.le_of_ble_eq_true rfl⟩ rfl rfl hl.1 (Nat.le_of_ble_eq_true rfl) dX10_dumpByte_6 ⟨Nat.le_refl _, Nat.le_refl _⟩ rfl (fun H locs hH => ?_)
  obtain ⟨x4, hx4, hF⟩ := ob hF
  have J3 : ∀ (H : Heap) (locs : List Loc), HW zM g w2 s.heap H locs → W p l e (rmd 3) s m args below meth c H locs 0 0 (MQ below (Qw zM g wz (some (.int (rz)))) args s 0 0 (zA zM g)) (F0 m 35 ls [.int (x4)]) := by
    intro H locs hH
    obtain ⟨rfl, rfl⟩ := se2 hF
    exact w_iret X hH hr dX10_dumpByte_35
  have hF := hx4
  refine lv_iload_n hx hb dX10_dumpByte_9 rfl (lv_at hl 1 rfl) ?_
  refine w_i2l hx hb dX10_dumpByte_10 ?_
  refine lv_lconst (v := 0) hx hb dX10_dumpByte_11 (by decide) ?_
  refine lv_aload_n hx hb dX10_dumpByte_12 rfl (lv_at hl 0 rfl) ?_
  refine w_geti X hH hk0 fs_10_41 lk_10_360 dX10_dumpByte_13 ?_
  refine lv_iconst (v := (1 : Int32)) hx hb dX10_dumpByte_16 (by decide) ?_
  refine lv_isub hx hb dX10_dumpByte_17 ?_
  refine w_i2l hx hb dX10_dumpByte_18 ?_
  refine w_callS (As := [.long ((v_index).toInt64), .long ((0 : Int64)), .long ((((w2.1 (k0) 41) - (1 : Int32))).toInt64)]) (rest := []) (st1 := [.int (bI ((f_X10_within ((v_index).toInt64) ((0 : Int64)) ((((w2.1 (k0) 41) - (1 : Int32))).toInt64))))]) X hH (c_X10_within (l := l) (g := g) (w := w2) (v_v := (v_index).toInt64) (v_low := (0 : Int64)) (v_high := (((w2.1 (k0) 41) - (1 : Int32))).toInt64) rfl) (Or.inl tw_5_223) ms_X10_within tw_5_224 ⟨Nat.le_of_ble_eq_true rfl, Nat.le_of_ble_eq_true rfl⟩ rfl rfl hl.1 (Nat.le_of_ble_eq_true rfl) dX10_dumpByte_19 ⟨Nat.le_refl _, Nat.le_refl _⟩ rfl (fun H locs hH => ?_)
  refine w_b_f (tgt := 34) hx hb dX10_dumpByte_22 (by decide) (fun c5 => ?_) (fun c5 => ?_)
  · replace hF := ifn c5 hF
    refine lv_iconst (v := (-1 : Int32)) hx hb dX10_dumpByte_34 (by decide) ?_
    obtain rfl := se1 hF
    exact J3 _ _ hH
  · replace hF := ifp c5 hF
    refine lv_aload_n hx hb dX10_dumpByte_25 rfl (lv_at hl 0 rfl) ?_
    refine w_getr X hH hk0 fs_10_40 lk_10_79 dX10_dumpByte_26 ?_
    refine lv_iload_n hx hb dX10_dumpByte_29 rfl (lv_at hl 1 rfl) ?_
    obtain ⟨x6, h6, hF⟩ := ob hF
    refine w_iald X hH h6 (rt_M_10_40 hk0) dX10_dumpByte_30 ?_
    refine lv_goto (tgt := 35) hx hb dX10_dumpByte_31 (by decide) ?_
    obtain rfl := se1 hF
    exact J3 _ _ hH

theorem dX10_keepState_0 : decode cX10_keepState 0 = .ok (.aload_n 0, 1) := by decide +kernel
theorem dX10_keepState_1 : decode cX10_keepState 1 = .ok (.getfield 200, 3) := by decide +kernel
theorem dX10_keepState_4 : decode cX10_keepState 4 = .ok (.bipush 12, 2) := by decide +kernel
theorem dX10_keepState_6 : decode cX10_keepState 6 = .ok (.if_icmp .ne 43, 3) := by decide +kernel
theorem dX10_keepState_9 : decode cX10_keepState 9 = .ok (.iconst 0, 1) := by decide +kernel
theorem dX10_keepState_10 : decode cX10_keepState 10 = .ok (.istore_n 1, 1) := by decide +kernel
theorem dX10_keepState_11 : decode cX10_keepState 11 = .ok (.iload_n 1, 1) := by decide +kernel
theorem dX10_keepState_12 : decode cX10_keepState 12 = .ok (.sipush 1342, 3) := by decide +kernel
theorem dX10_keepState_15 : decode cX10_keepState 15 = .ok (.if_icmp .ge 24, 3) := by decide +kernel
theorem dX10_keepState_18 : decode cX10_keepState 18 = .ok (.aload_n 0, 1) := by decide +kernel
theorem dX10_keepState_19 : decode cX10_keepState 19 = .ok (.getfield 45, 3) := by decide +kernel
theorem dX10_keepState_22 : decode cX10_keepState 22 = .ok (.iload_n 1, 1) := by decide +kernel
theorem dX10_keepState_23 : decode cX10_keepState 23 = .ok (.aload_n 0, 1) := by decide +kernel
theorem dX10_keepState_24 : decode cX10_keepState 24 = .ok (.getfield 45, 3) := by decide +kernel
theorem dX10_keepState_27 : decode cX10_keepState 27 = .ok (.iload_n 1, 1) := by decide +kernel
theorem dX10_keepState_28 : decode cX10_keepState 28 = .ok (.bipush 122, 2) := by decide +kernel
theorem dX10_keepState_30 : decode cX10_keepState 30 = .ok (.iadd, 1) := by decide +kernel
theorem dX10_keepState_31 : decode cX10_keepState 31 = .ok (.iaload, 1) := by decide +kernel
theorem dX10_keepState_32 : decode cX10_keepState 32 = .ok (.iastore, 1) := by decide +kernel
theorem dX10_keepState_33 : decode cX10_keepState 33 = .ok (.iinc 1 1, 3) := by decide +kernel
theorem dX10_keepState_36 : decode cX10_keepState 36 = .ok (.goto (-25), 3) := by decide +kernel
theorem dX10_keepState_39 : decode cX10_keepState 39 = .ok (.aload_n 0, 1) := by decide +kernel
theorem dX10_keepState_40 : decode cX10_keepState 40 = .ok (.dup, 1) := by decide +kernel
theorem dX10_keepState_41 : decode cX10_keepState 41 = .ok (.getfield 200, 3) := by decide +kernel
theorem dX10_keepState_44 : decode cX10_keepState 44 = .ok (.iconst 1, 1) := by decide +kernel
theorem dX10_keepState_45 : decode cX10_keepState 45 = .ok (.isub, 1) := by decide +kernel
theorem dX10_keepState_46 : decode cX10_keepState 46 = .ok (.putfield 200, 3) := by decide +kernel
theorem dX10_keepState_49 : decode cX10_keepState 49 = .ok (.iconst 0, 1) := by decide +kernel
theorem dX10_keepState_50 : decode cX10_keepState 50 = .ok (.istore_n 1, 1) := by decide +kernel
theorem dX10_keepState_51 : decode cX10_keepState 51 = .ok (.iload_n 1, 1) := by decide +kernel
theorem dX10_keepState_52 : decode cX10_keepState 52 = .ok (.bipush 122, 2) := by decide +kernel
theorem dX10_keepState_54 : decode cX10_keepState 54 = .ok (.if_icmp .ge 29, 3) := by decide +kernel
theorem dX10_keepState_57 : decode cX10_keepState 57 = .ok (.aload_n 0, 1) := by decide +kernel
theorem dX10_keepState_58 : decode cX10_keepState 58 = .ok (.getfield 45, 3) := by decide +kernel
theorem dX10_keepState_61 : decode cX10_keepState 61 = .ok (.bipush 122, 2) := by decide +kernel
theorem dX10_keepState_63 : decode cX10_keepState 63 = .ok (.aload_n 0, 1) := by decide +kernel
theorem dX10_keepState_64 : decode cX10_keepState 64 = .ok (.getfield 200, 3) := by decide +kernel
theorem dX10_keepState_67 : decode cX10_keepState 67 = .ok (.imul, 1) := by decide +kernel
theorem dX10_keepState_68 : decode cX10_keepState 68 = .ok (.iload_n 1, 1) := by decide +kernel
theorem dX10_keepState_69 : decode cX10_keepState 69 = .ok (.iadd, 1) := by decide +kernel
theorem dX10_keepState_70 : decode cX10_keepState 70 = .ok (.aload_n 0, 1) := by decide +kernel
theorem dX10_keepState_71 : decode cX10_keepState 71 = .ok (.getfield 39, 3) := by decide +kernel
theorem dX10_keepState_74 : decode cX10_keepState 74 = .ok (.iload_n 1, 1) := by decide +kernel
theorem dX10_keepState_75 : decode cX10_keepState 75 = .ok (.iaload, 1) := by decide +kernel
theorem dX10_keepState_76 : decode cX10_keepState 76 = .ok (.iastore, 1) := by decide +kernel
theorem dX10_keepState_77 : decode cX10_keepState 77 = .ok (.iinc 1 1, 3) := by decide +kernel
theorem dX10_keepState_80 : decode cX10_keepState 80 = .ok (.goto (-29), 3) := by decide +kernel
theorem dX10_keepState_83 : decode cX10_keepState 83 = .ok (.aload_n 0, 1) := by decide +kernel
theorem dX10_keepState_84 : decode cX10_keepState 84 = .ok (.dup, 1) := by decide +kernel
theorem dX10_keepState_85 : decode cX10_keepState 85 = .ok (.getfield 200, 3) := by decide +kernel
theorem dX10_keepState_88 : decode cX10_keepState 88 = .ok (.iconst 1, 1) := by decide +kernel
theorem dX10_keepState_89 : decode cX10_keepState 89 = .ok (.iadd, 1) := by decide +kernel
theorem dX10_keepState_90 : decode cX10_keepState 90 = .ok (.putfield 200, 3) := by decide +kernel
theorem dX10_keepState_93 : decode cX10_keepState 93 = .ok (.return_, 1) := by decide +kernel
set_option maxHeartbeats 4000000 in
set_option maxRecDepth 100000 in
theorem c_X10_keepState {l : Launch} {g : Gh} {w : Wd} {k0 : Nat} {wz : Wd} (hF : f_X10_keepState w k0 = some wz) (hk0 : zct zM k0 = 10) : Met l yX10_keepState (Cond.code yX10_keepState cX10_keepState 2 none :: TT) (rmd 0) (Pcw zM g w [.ref (g.2.2 k0)]) (Qw zM g wz none) 0 0 (zA zM g) := by
  refine mt_start (by decide) (Nat.le_of_ble_eq_true rfl) ?_
  intro p e s m args below meth c H locs ls X hr hl hH
  have hx := X.1
  have hb := X.2.1
  have hml := X.2.2.1
  have hown := X.2.2.2.1
  have ht := X.2.2.2.2.1
  have hl : lv_has ls 2 [(0, .ref (g.2.2 (k0)))] := hl
  unfold f_X10_keepState at hF
  obtain ⟨s1, hs1, hF⟩ := ob hF
  have Js1 : ∀ (H : Heap) (locs : List Loc) (ls : Array Slot), HW zM g s1 s.heap H locs → lv_has ls 2 [(0, .ref (g.2.2 (k0)))] → W p l e (rmd 0) s m args below meth c H locs 0 0 (MQ below (Qw zM g wz none) args s 0 0 (zA zM g)) (F0 m 49 ls []) := by
    intro H locs ls hH hl
    refine lv_iconst (v := (0 : Int32)) hx hb dX10_keepState_49 (by decide) ?_
    refine lv_istore_n (lv' := [(1, .int ((0 : Int32))), (0, .ref (g.2.2 (k0)))]) hx hb dX10_keepState_50 rfl hl (by decide) rfl (fun ls hl => ?_)
    obtain ⟨r10, hLr10, hF⟩ := ob hF
    have Jr10 : ∀ (H : Heap) (locs : List Loc) (ls : Array Slot), HW zM g r10 s.heap H locs → lv_has ls 2 [(0, .ref (g.2.2 (k0)))] → W p l e (rmd 0) s m args below meth c H locs 0 0 (MQ below (Qw zM g wz none) args s 0 0 (zA zM g)) (F0 m 83 ls []) := by
      intro H locs ls hH hl
      refine lv_aload_n hx hb dX10_keepState_83 rfl (lv_at hl 0 rfl) ?_
      refine lv_dup hx hb dX10_keepState_84 rfl ?_
      refine w_geti X hH hk0 fs_10_21 lk_10_200 dX10_keepState_85 ?_
      refine lv_iconst (v := (1 : Int32)) hx hb dX10_keepState_88 (by decide) ?_
      refine lv_iadd hx hb dX10_keepState_89 ?_
      obtain ⟨w14, h14, hF⟩ := ob hF
      refine w_puti X hH h14 hk0 fs_10_21 nf_10_21 lk_10_200 dX10_keepState_90 (fun H locs hH => ?_)
      obtain rfl := se1 hF
      exact w_vret X hH hr dX10_keepState_93
    have Lr10 : ∀ (n : Nat) (s9 : Int32 × Wd), lp (b_X10_keepState_2 k0) n s9 = some r10 → ∀ (H : Heap) (locs : List Loc) (ls : Array Slot), HW zM g s9.2 s.heap H locs → lv_has ls 2 [(0, .ref (g.2.2 (k0))), (1, .int (s9.1))] → W p l e (rmd 0) s m args below meth c H locs 0 0 (MQ below (Qw zM g wz none) args s 0 0 (zA zM g)) (F0 m 51 ls []) := by
      intro n
      induction n with
      | zero => intro s9 hL; exact lp_0 hL
      | succ n ih =>
        intro s9 hL H locs ls hH hl
        obtain ⟨bb, hF, hL⟩ := lp_s hL
        unfold b_X10_keepState_2 at hF
        refine lv_iload_n hx hb dX10_keepState_51 rfl (lv_at hl 1 rfl) ?_
        refine lv_bipush (v := (122 : Int32)) hx hb dX10_keepState_52 (by decide) ?_
        refine w_ilt_f (tgt := 83) hx hb dX10_keepState_54 (by decide) (fun c11 => ?_) (fun c11 => ?_)
        · replace hF := ifn c11 hF
          obtain rfl := se1 hF
          subst hL
          exact Jr10 _ _ _ hH (lv_sub hl [0] rfl)
        · replace hF := ifp c11 hF
          refine lv_aload_n hx hb dX10_keepState_57 rfl (lv_at hl 0 rfl) ?_
          refine w_getr X hH hk0 fs_10_20 lk_10_45 dX10_keepState_58 ?_
          refine lv_bipush (v := (122 : Int32)) hx hb dX10_keepState_61 (by decide) ?_
          refine lv_aload_n hx hb dX10_keepState_63 rfl (lv_at hl 0 rfl) ?_
          refine w_geti X hH hk0 fs_10_21 lk_10_200 dX10_keepState_64 ?_
          refine lv_imul hx hb dX10_keepState_67 ?_
          refine lv_iload_n hx hb dX10_keepState_68 rfl (lv_at hl 1 rfl) ?_
          refine lv_iadd hx hb dX10_keepState_69 ?_
          refine lv_aload_n hx hb dX10_keepState_70 rfl (lv_at hl 0 rfl) ?_
          refine w_getr X hH hk0 fs_10_18 lk_10_39 dX10_keepState_71 ?_
          refine lv_iload_n hx hb dX10_keepState_74 rfl (lv_at hl 1 rfl) ?_
          obtain ⟨x12, h12, hF⟩ := ob hF
          refine w_iald X hH h12 (rt_M_10_18 hk0) dX10_keepState_75 ?_
          obtain ⟨w13, h13, hF⟩ := ob hF
          refine w_iast X hH h13 (rt_M_10_20 hk0) dX10_keepState_76 (fun H locs hH => ?_)
          refine lv_iinc (v := (s9.1 + (1 : Int32))) (lv' := [(1, .int ((s9.1 + (1 : Int32)))), (0, .ref (g.2.2 (k0)))]) hx hb dX10_keepState_77 hl (k := 1) rfl rfl (by decide) rfl (fun ls hl => ?_)
          refine lv_goto (tgt := 51) hx hb dX10_keepState_80 (by decide) ?_
          obtain rfl := se1 hF
          exact ih _ hL _ _ _ hH (lv_sub hl [1, 0] rfl)
    exact Lr10 NF _ hLr10 _ _ _ hH (lv_sub hl [1, 0] rfl)
  have hF := hs1
  refine lv_aload_n hx hb dX10_keepState_0 rfl (lv_at hl 0 rfl) ?_
  refine w_geti X hH hk0 fs_10_21 lk_10_200 dX10_keepState_1 ?_
  refine lv_bipush (v := (12 : Int32)) hx hb dX10_keepState_4 (by decide) ?_
  refine w_ieq_f (tgt := 49) hx hb dX10_keepState_6 (by decide) (fun c2 => ?_) (fun c2 => ?_)
  · replace hF := ifn c2 hF
    obtain rfl := se1 hF
    exact Js1 _ _ _ hH (lv_sub hl [0] rfl)
  · replace hF := ifp c2 hF
    refine lv_iconst (v := (0 : Int32)) hx hb dX10_keepState_9 (by decide) ?_
    refine lv_istore_n (lv' := [(1, .int ((0 : Int32))), (0, .ref (g.2.2 (k0)))]) hx hb dX10_keepState_10 rfl hl (by decide) rfl (fun ls hl => ?_)
    obtain ⟨r4, hLr4, hF⟩ := ob hF
    have Jr4 : ∀ (H : Heap) (locs : List Loc) (ls : Array Slot), HW zM g r4 s.heap H locs → lv_has ls 2 [(0, .ref (g.2.2 (k0)))] → W p l e (rmd 0) s m args below meth c H locs 0 0 (MQ below (Qw zM g wz none) args s 0 0 (zA zM g)) (F0 m 39 ls []) := by
      intro H locs ls hH hl
      refine lv_aload_n hx hb dX10_keepState_39 rfl (lv_at hl 0 rfl) ?_
      refine lv_dup hx hb dX10_keepState_40 rfl ?_
      refine w_geti X hH hk0 fs_10_21 lk_10_200 dX10_keepState_41 ?_
      refine lv_iconst (v := (1 : Int32)) hx hb dX10_keepState_44 (by decide) ?_
      refine lv_isub hx hb dX10_keepState_45 ?_
      obtain ⟨w8, h8, hF⟩ := ob hF
      refine w_puti X hH h8 hk0 fs_10_21 nf_10_21 lk_10_200 dX10_keepState_46 (fun H locs hH => ?_)
      obtain rfl := se1 hF
      exact Js1 _ _ _ hH (lv_sub hl [0] rfl)
    have Lr4 : ∀ (n : Nat) (s3 : Int32 × Wd), lp (b_X10_keepState_1 k0) n s3 = some r4 → ∀ (H : Heap) (locs : List Loc) (ls : Array Slot), HW zM g s3.2 s.heap H locs → lv_has ls 2 [(0, .ref (g.2.2 (k0))), (1, .int (s3.1))] → W p l e (rmd 0) s m args below meth c H locs 0 0 (MQ below (Qw zM g wz none) args s 0 0 (zA zM g)) (F0 m 11 ls []) := by
      intro n
      induction n with
      | zero => intro s3 hL; exact lp_0 hL
      | succ n ih =>
        intro s3 hL H locs ls hH hl
        obtain ⟨bb, hF, hL⟩ := lp_s hL
        unfold b_X10_keepState_1 at hF
        refine lv_iload_n hx hb dX10_keepState_11 rfl (lv_at hl 1 rfl) ?_
        refine lv_sipush (v := (1342 : Int32)) hx hb dX10_keepState_12 (by decide) ?_
        refine w_ilt_f (tgt := 39) hx hb dX10_keepState_15 (by decide) (fun c5 => ?_) (fun c5 => ?_)
        · replace hF := ifn c5 hF
          obtain rfl := se1 hF
          subst hL
          exact Jr4 _ _ _ hH (lv_sub hl [0] rfl)
        · replace hF := ifp c5 hF
          refine lv_aload_n hx hb dX10_keepState_18 rfl (lv_at hl 0 rfl) ?_
          refine w_getr X hH hk0 fs_10_20 lk_10_45 dX10_keepState_19 ?_
          refine lv_iload_n hx hb dX10_keepState_22 rfl (lv_at hl 1 rfl) ?_
          refine lv_aload_n hx hb dX10_keepState_23 rfl (lv_at hl 0 rfl) ?_
          refine w_getr X hH hk0 fs_10_20 lk_10_45 dX10_keepState_24 ?_
          refine lv_iload_n hx hb dX10_keepState_27 rfl (lv_at hl 1 rfl) ?_
          refine lv_bipush (v := (122 : Int32)) hx hb dX10_keepState_28 (by decide) ?_
          refine lv_iadd hx hb dX10_keepState_30 ?_
          obtain ⟨x6, h6, hF⟩ := ob hF
          refine w_iald X hH h6 (rt_M_10_20 hk0) dX10_keepState_31 ?_
          obtain ⟨w7, h7, hF⟩ := ob hF
          refine w_iast X hH h7 (rt_M_10_20 hk0) dX10_keepState_32 (fun H locs hH => ?_)
          refine lv_iinc (v := (s3.1 + (1 : Int32))) (lv' := [(1, .int ((s3.1 + (1 : Int32)))), (0, .ref (g.2.2 (k0)))]) hx hb dX10_keepState_33 hl (k := 1) rfl rfl (by decide) rfl (fun ls hl => ?_)
          refine lv_goto (tgt := 11) hx hb dX10_keepState_36 (by decide) ?_
          obtain rfl := se1 hF
          exact ih _ hL _ _ _ hH (lv_sub hl [1, 0] rfl)
    exact Lr4 NF _ hLr4 _ _ _ hH (lv_sub hl [1, 0] rfl)

theorem dX10_areOperands_0 : decode cX10_areOperands 0 = .ok (.aload_n 0, 1) := by decide +kernel
theorem dX10_areOperands_1 : decode cX10_areOperands 1 = .ok (.iload_n 2, 1) := by decide +kernel
theorem dX10_areOperands_2 : decode cX10_areOperands 2 = .ok (.invokevirtual 225, 3) := by decide +kernel
theorem dX10_areOperands_5 : decode cX10_areOperands 5 = .ok (.ifCond .ne 5, 3) := by decide +kernel
theorem dX10_areOperands_8 : decode cX10_areOperands 8 = .ok (.iconst 0, 1) := by decide +kernel
theorem dX10_areOperands_9 : decode cX10_areOperands 9 = .ok (.ireturn, 1) := by decide +kernel
theorem dX10_areOperands_10 : decode cX10_areOperands 10 = .ok (.iload_n 1, 1) := by decide +kernel
theorem dX10_areOperands_11 : decode cX10_areOperands 11 = .ok (.tableswitch 144 0 4 #[33, 54, 75, 98, 121], 33) := by decide +kernel
theorem dX10_areOperands_44 : decode cX10_areOperands 44 = .ok (.aload_n 0, 1) := by decide +kernel
theorem dX10_areOperands_45 : decode cX10_areOperands 45 = .ok (.iload_n 3, 1) := by decide +kernel
theorem dX10_areOperands_46 : decode cX10_areOperands 46 = .ok (.invokevirtual 222, 3) := by decide +kernel
theorem dX10_areOperands_49 : decode cX10_areOperands 49 = .ok (.ifCond .eq 14, 3) := by decide +kernel
theorem dX10_areOperands_52 : decode cX10_areOperands 52 = .ok (.iload 4, 2) := by decide +kernel
theorem dX10_areOperands_54 : decode cX10_areOperands 54 = .ok (.bipush (-2), 2) := by decide +kernel
theorem dX10_areOperands_56 : decode cX10_areOperands 56 = .ok (.if_icmp .ne 7, 3) := by decide +kernel
theorem dX10_areOperands_59 : decode cX10_areOperands 59 = .ok (.iconst 1, 1) := by decide +kernel
theorem dX10_areOperands_60 : decode cX10_areOperands 60 = .ok (.goto 4, 3) := by decide +kernel
theorem dX10_areOperands_63 : decode cX10_areOperands 63 = .ok (.iconst 0, 1) := by decide +kernel
theorem dX10_areOperands_64 : decode cX10_areOperands 64 = .ok (.ireturn, 1) := by decide +kernel
theorem dX10_areOperands_65 : decode cX10_areOperands 65 = .ok (.aload_n 0, 1) := by decide +kernel
theorem dX10_areOperands_66 : decode cX10_areOperands 66 = .ok (.iload_n 3, 1) := by decide +kernel
theorem dX10_areOperands_67 : decode cX10_areOperands 67 = .ok (.invokevirtual 225, 3) := by decide +kernel
theorem dX10_areOperands_70 : decode cX10_areOperands 70 = .ok (.ifCond .eq 14, 3) := by decide +kernel
theorem dX10_areOperands_73 : decode cX10_areOperands 73 = .ok (.iload 4, 2) := by decide +kernel
theorem dX10_areOperands_75 : decode cX10_areOperands 75 = .ok (.bipush (-2), 2) := by decide +kernel
theorem dX10_areOperands_77 : decode cX10_areOperands 77 = .ok (.if_icmp .ne 7, 3) := by decide +kernel
theorem dX10_areOperands_80 : decode cX10_areOperands 80 = .ok (.iconst 1, 1) := by decide +kernel
theorem dX10_areOperands_81 : decode cX10_areOperands 81 = .ok (.goto 4, 3) := by decide +kernel
theorem dX10_areOperands_84 : decode cX10_areOperands 84 = .ok (.iconst 0, 1) := by decide +kernel
theorem dX10_areOperands_85 : decode cX10_areOperands 85 = .ok (.ireturn, 1) := by decide +kernel
theorem dX10_areOperands_86 : decode cX10_areOperands 86 = .ok (.aload_n 0, 1) := by decide +kernel
theorem dX10_areOperands_87 : decode cX10_areOperands 87 = .ok (.iload_n 3, 1) := by decide +kernel
theorem dX10_areOperands_88 : decode cX10_areOperands 88 = .ok (.invokevirtual 225, 3) := by decide +kernel
theorem dX10_areOperands_91 : decode cX10_areOperands 91 = .ok (.ifCond .eq 16, 3) := by decide +kernel
theorem dX10_areOperands_94 : decode cX10_areOperands 94 = .ok (.aload_n 0, 1) := by decide +kernel
theorem dX10_areOperands_95 : decode cX10_areOperands 95 = .ok (.iload 4, 2) := by decide +kernel
theorem dX10_areOperands_97 : decode cX10_areOperands 97 = .ok (.invokevirtual 228, 3) := by decide +kernel
theorem dX10_areOperands_100 : decode cX10_areOperands 100 = .ok (.ifCond .eq 7, 3) := by decide +kernel
theorem dX10_areOperands_103 : decode cX10_areOperands 103 = .ok (.iconst 1, 1) := by decide +kernel
theorem dX10_areOperands_104 : decode cX10_areOperands 104 = .ok (.goto 4, 3) := by decide +kernel
theorem dX10_areOperands_107 : decode cX10_areOperands 107 = .ok (.iconst 0, 1) := by decide +kernel
theorem dX10_areOperands_108 : decode cX10_areOperands 108 = .ok (.ireturn, 1) := by decide +kernel
theorem dX10_areOperands_109 : decode cX10_areOperands 109 = .ok (.aload_n 0, 1) := by decide +kernel
theorem dX10_areOperands_110 : decode cX10_areOperands 110 = .ok (.iload_n 3, 1) := by decide +kernel
theorem dX10_areOperands_111 : decode cX10_areOperands 111 = .ok (.invokevirtual 228, 3) := by decide +kernel
theorem dX10_areOperands_114 : decode cX10_areOperands 114 = .ok (.ifCond .eq 16, 3) := by decide +kernel
theorem dX10_areOperands_117 : decode cX10_areOperands 117 = .ok (.aload_n 0, 1) := by decide +kernel
theorem dX10_areOperands_118 : decode cX10_areOperands 118 = .ok (.iload 4, 2) := by decide +kernel
theorem dX10_areOperands_120 : decode cX10_areOperands 120 = .ok (.invokevirtual 225, 3) := by decide +kernel
theorem dX10_areOperands_123 : decode cX10_areOperands 123 = .ok (.ifCond .eq 7, 3) := by decide +kernel
theorem dX10_areOperands_126 : decode cX10_areOperands 126 = .ok (.iconst 1, 1) := by decide +kernel
theorem dX10_areOperands_127 : decode cX10_areOperands 127 = .ok (.goto 4, 3) := by decide +kernel
theorem dX10_areOperands_130 : decode cX10_areOperands 130 = .ok (.iconst 0, 1) := by decide +kernel
theorem dX10_areOperands_131 : decode cX10_areOperands 131 = .ok (.ireturn, 1) := by decide +kernel
theorem dX10_areOperands_132 : decode cX10_areOperands 132 = .ok (.aload_n 0, 1) := by decide +kernel
theorem dX10_areOperands_133 : decode cX10_areOperands 133 = .ok (.iload_n 3, 1) := by decide +kernel
theorem dX10_areOperands_134 : decode cX10_areOperands 134 = .ok (.invokevirtual 225, 3) := by decide +kernel
theorem dX10_areOperands_137 : decode cX10_areOperands 137 = .ok (.ifCond .eq 16, 3) := by decide +kernel
theorem dX10_areOperands_140 : decode cX10_areOperands 140 = .ok (.aload_n 0, 1) := by decide +kernel
theorem dX10_areOperands_141 : decode cX10_areOperands 141 = .ok (.iload 4, 2) := by decide +kernel
theorem dX10_areOperands_143 : decode cX10_areOperands 143 = .ok (.invokevirtual 225, 3) := by decide +kernel
theorem dX10_areOperands_146 : decode cX10_areOperands 146 = .ok (.ifCond .eq 7, 3) := by decide +kernel
theorem dX10_areOperands_149 : decode cX10_areOperands 149 = .ok (.iconst 1, 1) := by decide +kernel
theorem dX10_areOperands_150 : decode cX10_areOperands 150 = .ok (.goto 4, 3) := by decide +kernel
theorem dX10_areOperands_153 : decode cX10_areOperands 153 = .ok (.iconst 0, 1) := by decide +kernel
theorem dX10_areOperands_154 : decode cX10_areOperands 154 = .ok (.ireturn, 1) := by decide +kernel
theorem dX10_areOperands_155 : decode cX10_areOperands 155 = .ok (.iconst 0, 1) := by decide +kernel
theorem dX10_areOperands_156 : decode cX10_areOperands 156 = .ok (.ireturn, 1) := by decide +kernel
set_option maxHeartbeats 4000000 in
set_option maxRecDepth 100000 in
theorem c_X10_areOperands {l : Launch} {g : Gh} {w : Wd} {k0 : Nat} {v_kind : Int32} {v_a : Int32} {v_b : Int32} {v_c : Int32} {rz : Bool} (hF : f_X10_areOperands w k0 v_kind v_a v_b v_c = some rz) (hk0 : zct zM k0 = 10) : Met l yX10_areOperands (Cond.code yX10_areOperands cX10_areOperands 5 (some .boolean) :: TT) (rmd 2) (Pcw zM g w [.ref (g.2.2 k0), .int (v_kind), .int (v_a), .int (v_b), .int (v_c)]) (Qw zM g w (some (.int (bI (rz))))) 0 0 (zA zM g) := by
  refine mt_start (by decide) (Nat.le_of_ble_eq_true rfl) ?_
  intro p e s m args below meth c H locs ls X hr hl hH
  have hx := X.1
  have hb := X.2.1
  have hml := X.2.2.1
  have hown := X.2.2.2.1
  have ht := X.2.2.2.2.1
  have hl : lv_has ls 5 [(0, .ref (g.2.2 (k0))), (1, .int (v_kind)), (2, .int (v_a)), (3, .int (v_b)), (4, .int (v_c))] := hl
  unfold f_X10_areOperands at hF
  refine lv_aload_n hx hb dX10_areOperands_0 rfl (lv_at hl 0 rfl) ?_
  refine lv_iload_n hx hb dX10_areOperands_1 rfl (lv_at hl 2 rfl) ?_
  obtain ⟨x1, h1, hF⟩ := ob hF
  refine w_callV (As := [.int (v_a)]) (k := k0) (rest := []) (st1 := [.int (bI (x1))]) X hH (c_X10_isVariable (l := l) (g := g) (w := w) (k0 := k0) (v_v := v_a) h1 hk0) (Or.inl tw_6_176) ms_X10_isVariable im_X10_isVariable hk0 cn_10 ⟨Nat.le_of_ble_eq_true rfl, Nat.le_of_ble_eq_true rfl⟩ rfl rfl hl.1 (Nat.le_of_ble_eq_true rfl) dX10_areOperands_2 ⟨Nat.le_refl _, Nat.le_refl _⟩ rfl (fun H locs hH => ?_)
  refine w_b_t (tgt := 10) hx hb dX10_areOperands_5 (by decide) (fun c2 => ?_) (fun c2 => ?_)
  · replace hF := ifn (fun z => z c2) hF
    refine lv_iload_n hx hb dX10_areOperands_10 rfl (lv_at hl 1 rfl) ?_
    by_cases c3 : v_kind = (0 : Int32)
    · replace hF := ifp c3 hF
      refine w_tin (tgt := 44) hx hb c3 dX10_areOperands_11 (by decide) (by decide) rfl (by decide) ?_
      refine lv_aload_n hx hb dX10_areOperands_44 rfl (lv_at hl 0 rfl) ?_
      refine lv_iload_n hx hb dX10_areOperands_45 rfl (lv_at hl 3 rfl) ?_
      obtain ⟨x5, h5, hF⟩ := ob hF
      refine w_callV (As := [.int (v_b)]) (k := k0) (rest := []) (st1 := [.int (bI (x5))]) X hH (c_X10_isObject (l := l) (g := g) (w := w) (k0 := k0) (v_o := v_b) h5 hk0) (Or.inl tw_6_145) ms_X10_isObject im_X10_isObject hk0 cn_10 ⟨Nat.le_of_ble_eq_true rfl, Nat.le_of_ble_eq_true rfl⟩ rfl rfl hl.1 (Nat.le_of_ble_eq_true rfl) dX10_areOperands_46 ⟨Nat.le_refl _, Nat.le_refl _⟩ rfl (fun H locs hH => ?_)
      have J4 : ∀ (H : Heap) (locs : List Loc), HW zM g w s.heap H locs → W p l e (rmd 2) s m args below meth c H locs 0 0 (MQ below (Qw zM g w (some (.int (bI (rz))))) args s 0 0 (zA zM g)) (F0 m 64 ls [.int (bI ((decide ((x5 = true) ∧ (v_c = (-2 : Int32))))))]) := by
        intro H locs hH
        obtain rfl := se1 hF
        exact w_zret X hH hr dX10_areOperands_64
      refine w_b_f (tgt := 63) hx hb dX10_areOperands_49 (by decide) (fun c6 => ?_) (fun c6 => ?_)
      · refine lv_iconst (v := (0 : Int32)) hx hb dX10_areOperands_63 (by decide) ?_
        exact w_b0 (fun z => c6 z.1) (J4 _ _ hH)
      · refine lv_iload hx hb dX10_areOperands_52 (lv_at hl 4 rfl) ?_
        refine lv_bipush (v := (-2 : Int32)) hx hb dX10_areOperands_54 (by decide) ?_
        refine w_ieq_f (tgt := 63) hx hb dX10_areOperands_56 (by decide) (fun c7 => ?_) (fun c7 => ?_)
        · refine lv_iconst (v := (0 : Int32)) hx hb dX10_areOperands_63 (by decide) ?_
          exact w_b0 (fun z => c7 z.2) (J4 _ _ hH)
        · refine lv_iconst (v := (1 : Int32)) hx hb dX10_areOperands_59 (by decide) ?_
          refine lv_goto (tgt := 64) hx hb dX10_areOperands_60 (by decide) ?_
          exact w_b1 ⟨c6, c7⟩ (J4 _ _ hH)
    · replace hF := ifn c3 hF
      by_cases c8 : v_kind = (1 : Int32)
      · replace hF := ifp c8 hF
        refine w_tin (tgt := 65) hx hb c8 dX10_areOperands_11 (by decide) (by decide) rfl (by decide) ?_
        refine lv_aload_n hx hb dX10_areOperands_65 rfl (lv_at hl 0 rfl) ?_
        refine lv_iload_n hx hb dX10_areOperands_66 rfl (lv_at hl 3 rfl) ?_
        obtain ⟨x10, h10, hF⟩ := ob hF
        refine w_callV (As := [.int (v_b)]) (k := k0) (rest := []) (st1 := [.int (bI (x10))]) X hH (c_X10_isVariable (l := l) (g := g) (w := w) (k0 := k0) (v_v := v_b) h10 hk0) (Or.inl tw_6_176) ms_X10_isVariable im_X10_isVariable hk0 cn_10 ⟨Nat.le_of_ble_eq_true rfl, Nat.le_of_ble_eq_true rfl⟩ rfl rfl hl.1 (Nat.le_of_ble_eq_true rfl) dX10_areOperands_67 ⟨Nat.le_refl _, Nat.le_refl _⟩ rfl (fun H locs hH => ?_)
        have J9 : ∀ (H : Heap) (locs : List Loc), HW zM g w s.heap H locs → W p l e (rmd 2) s m args below meth c H locs 0 0 (MQ below (Qw zM g w (some (.int (bI (rz))))) args s 0 0 (zA zM g)) (F0 m 85 ls [.int (bI ((decide ((x10 = true) ∧ (v_c = (-2 : Int32))))))]) := by
          intro H locs hH
          obtain rfl := se1 hF
          exact w_zret X hH hr dX10_areOperands_85
        refine w_b_f (tgt := 84) hx hb dX10_areOperands_70 (by decide) (fun c11 => ?_) (fun c11 => ?_)
        · refine lv_iconst (v := (0 : Int32)) hx hb dX10_areOperands_84 (by decide) ?_
          exact w_b0 (fun z => c11 z.1) (J9 _ _ hH)
        · refine lv_iload hx hb dX10_areOperands_73 (lv_at hl 4 rfl) ?_
          refine lv_bipush (v := (-2 : Int32)) hx hb dX10_areOperands_75 (by decide) ?_
          refine w_ieq_f (tgt := 84) hx hb dX10_areOperands_77 (by decide) (fun c12 => ?_) (fun c12 => ?_)
          · refine lv_iconst (v := (0 : Int32)) hx hb dX10_areOperands_84 (by decide) ?_
            exact w_b0 (fun z => c12 z.2) (J9 _ _ hH)
          · refine lv_iconst (v := (1 : Int32)) hx hb dX10_areOperands_80 (by decide) ?_
            refine lv_goto (tgt := 85) hx hb dX10_areOperands_81 (by decide) ?_
            exact w_b1 ⟨c11, c12⟩ (J9 _ _ hH)
      · replace hF := ifn c8 hF
        by_cases c13 : v_kind = (2 : Int32)
        · replace hF := ifp c13 hF
          refine w_tin (tgt := 86) hx hb c13 dX10_areOperands_11 (by decide) (by decide) rfl (by decide) ?_
          obtain ⟨b15, hb15, hF⟩ := ob hF
          have J14 : ∀ (H : Heap) (locs : List Loc), HW zM g w s.heap H locs → W p l e (rmd 2) s m args below meth c H locs 0 0 (MQ below (Qw zM g w (some (.int (bI (rz))))) args s 0 0 (zA zM g)) (F0 m 108 ls [.int (bI (b15))]) := by
            intro H locs hH
            obtain rfl := se1 hF
            exact w_zret X hH hr dX10_areOperands_108
          have hF := hb15
          refine lv_aload_n hx hb dX10_areOperands_86 rfl (lv_at hl 0 rfl) ?_
          refine lv_iload_n hx hb dX10_areOperands_87 rfl (lv_at hl 3 rfl) ?_
          obtain ⟨x17, h17, hF⟩ := ob hF
          refine w_callV (As := [.int (v_b)]) (k := k0) (rest := []) (st1 := [.int (bI (x17))]) X hH (c_X10_isVariable (l := l) (g := g) (w := w) (k0 := k0) (v_v := v_b) h17 hk0) (Or.inl tw_6_176) ms_X10_isVariable im_X10_isVariable hk0 cn_10 ⟨Nat.le_of_ble_eq_true rfl, Nat.le_of_ble_eq_true rfl⟩ rfl rfl hl.1 (Nat.le_of_ble_eq_true rfl) dX10_areOperands_88 ⟨Nat.le_refl _, Nat.le_refl _⟩ rfl (fun H locs hH => ?_)
          refine w_b_f (tgt := 107) hx hb dX10_areOperands_91 (by decide) (fun c16 => ?_) (fun c16 => ?_)
          · replace hF := ifn c16 hF
            refine lv_iconst (v := (0 : Int32)) hx hb dX10_areOperands_107 (by decide) ?_
            obtain rfl := se1 hF
            exact J14 _ _ hH
          · replace hF := ifp c16 hF
            refine lv_aload_n hx hb dX10_areOperands_94 rfl (lv_at hl 0 rfl) ?_
            refine lv_iload hx hb dX10_areOperands_95 (lv_at hl 4 rfl) ?_
            obtain ⟨x19, h19, hF⟩ := ob hF
            refine w_callV (As := [.int (v_c)]) (k := k0) (rest := []) (st1 := [.int (bI (x19))]) X hH (c_X10_isField (l := l) (g := g) (w := w) (k0 := k0) (v_f := v_c) h19 hk0) (Or.inl tw_6_180) ms_X10_isField im_X10_isField hk0 cn_10 ⟨Nat.le_of_ble_eq_true rfl, Nat.le_of_ble_eq_true rfl⟩ rfl rfl hl.1 (Nat.le_of_ble_eq_true rfl) dX10_areOperands_97 ⟨Nat.le_refl _, Nat.le_refl _⟩ rfl (fun H locs hH => ?_)
            refine w_b_f (tgt := 107) hx hb dX10_areOperands_100 (by decide) (fun c18 => ?_) (fun c18 => ?_)
            · replace hF := ifn c18 hF
              refine lv_iconst (v := (0 : Int32)) hx hb dX10_areOperands_107 (by decide) ?_
              obtain rfl := se1 hF
              exact J14 _ _ hH
            · replace hF := ifp c18 hF
              refine lv_iconst (v := (1 : Int32)) hx hb dX10_areOperands_103 (by decide) ?_
              refine lv_goto (tgt := 108) hx hb dX10_areOperands_104 (by decide) ?_
              obtain rfl := se1 hF
              exact J14 _ _ hH
        · replace hF := ifn c13 hF
          by_cases c20 : v_kind = (3 : Int32)
          · replace hF := ifp c20 hF
            refine w_tin (tgt := 109) hx hb c20 dX10_areOperands_11 (by decide) (by decide) rfl (by decide) ?_
            obtain ⟨b22, hb22, hF⟩ := ob hF
            have J21 : ∀ (H : Heap) (locs : List Loc), HW zM g w s.heap H locs → W p l e (rmd 2) s m args below meth c H locs 0 0 (MQ below (Qw zM g w (some (.int (bI (rz))))) args s 0 0 (zA zM g)) (F0 m 131 ls [.int (bI (b22))]) := by
              intro H locs hH
              obtain rfl := se1 hF
              exact w_zret X hH hr dX10_areOperands_131
            have hF := hb22
            refine lv_aload_n hx hb dX10_areOperands_109 rfl (lv_at hl 0 rfl) ?_
            refine lv_iload_n hx hb dX10_areOperands_110 rfl (lv_at hl 3 rfl) ?_
            obtain ⟨x24, h24, hF⟩ := ob hF
            refine w_callV (As := [.int (v_b)]) (k := k0) (rest := []) (st1 := [.int (bI (x24))]) X hH (c_X10_isField (l := l) (g := g) (w := w) (k0 := k0) (v_f := v_b) h24 hk0) (Or.inl tw_6_180) ms_X10_isField im_X10_isField hk0 cn_10 ⟨Nat.le_of_ble_eq_true rfl, Nat.le_of_ble_eq_true rfl⟩ rfl rfl hl.1 (Nat.le_of_ble_eq_true rfl) dX10_areOperands_111 ⟨Nat.le_refl _, Nat.le_refl _⟩ rfl (fun H locs hH => ?_)
            refine w_b_f (tgt := 130) hx hb dX10_areOperands_114 (by decide) (fun c23 => ?_) (fun c23 => ?_)
            · replace hF := ifn c23 hF
              refine lv_iconst (v := (0 : Int32)) hx hb dX10_areOperands_130 (by decide) ?_
              obtain rfl := se1 hF
              exact J21 _ _ hH
            · replace hF := ifp c23 hF
              refine lv_aload_n hx hb dX10_areOperands_117 rfl (lv_at hl 0 rfl) ?_
              refine lv_iload hx hb dX10_areOperands_118 (lv_at hl 4 rfl) ?_
              obtain ⟨x26, h26, hF⟩ := ob hF
              refine w_callV (As := [.int (v_c)]) (k := k0) (rest := []) (st1 := [.int (bI (x26))]) X hH (c_X10_isVariable (l := l) (g := g) (w := w) (k0 := k0) (v_v := v_c) h26 hk0) (Or.inl tw_6_176) ms_X10_isVariable im_X10_isVariable hk0 cn_10 ⟨Nat.le_of_ble_eq_true rfl, Nat.le_of_ble_eq_true rfl⟩ rfl rfl hl.1 (Nat.le_of_ble_eq_true rfl) dX10_areOperands_120 ⟨Nat.le_refl _, Nat.le_refl _⟩ rfl (fun H locs hH => ?_)
              refine w_b_f (tgt := 130) hx hb dX10_areOperands_123 (by decide) (fun c25 => ?_) (fun c25 => ?_)
              · replace hF := ifn c25 hF
                refine lv_iconst (v := (0 : Int32)) hx hb dX10_areOperands_130 (by decide) ?_
                obtain rfl := se1 hF
                exact J21 _ _ hH
              · replace hF := ifp c25 hF
                refine lv_iconst (v := (1 : Int32)) hx hb dX10_areOperands_126 (by decide) ?_
                refine lv_goto (tgt := 131) hx hb dX10_areOperands_127 (by decide) ?_
                obtain rfl := se1 hF
                exact J21 _ _ hH
          · replace hF := ifn c20 hF
            by_cases c27 : v_kind = (4 : Int32)
            · replace hF := ifp c27 hF
              refine w_tin (tgt := 132) hx hb c27 dX10_areOperands_11 (by decide) (by decide) rfl (by decide) ?_
              obtain ⟨b29, hb29, hF⟩ := ob hF
              have J28 : ∀ (H : Heap) (locs : List Loc), HW zM g w s.heap H locs → W p l e (rmd 2) s m args below meth c H locs 0 0 (MQ below (Qw zM g w (some (.int (bI (rz))))) args s 0 0 (zA zM g)) (F0 m 154 ls [.int (bI (b29))]) := by
                intro H locs hH
                obtain rfl := se1 hF
                exact w_zret X hH hr dX10_areOperands_154
              have hF := hb29
              refine lv_aload_n hx hb dX10_areOperands_132 rfl (lv_at hl 0 rfl) ?_
              refine lv_iload_n hx hb dX10_areOperands_133 rfl (lv_at hl 3 rfl) ?_
              obtain ⟨x31, h31, hF⟩ := ob hF
              refine w_callV (As := [.int (v_b)]) (k := k0) (rest := []) (st1 := [.int (bI (x31))]) X hH (c_X10_isVariable (l := l) (g := g) (w := w) (k0 := k0) (v_v := v_b) h31 hk0) (Or.inl tw_6_176) ms_X10_isVariable im_X10_isVariable hk0 cn_10 ⟨Nat.le_of_ble_eq_true rfl, Nat.le_of_ble_eq_true rfl⟩ rfl rfl hl.1 (Nat.le_of_ble_eq_true rfl) dX10_areOperands_134 ⟨Nat.le_refl _, Nat.le_refl _⟩ rfl (fun H locs hH => ?_)
              refine w_b_f (tgt := 153) hx hb dX10_areOperands_137 (by decide) (fun c30 => ?_) (fun c30 => ?_)
              · replace hF := ifn c30 hF
                refine lv_iconst (v := (0 : Int32)) hx hb dX10_areOperands_153 (by decide) ?_
                obtain rfl := se1 hF
                exact J28 _ _ hH
              · replace hF := ifp c30 hF
                refine lv_aload_n hx hb dX10_areOperands_140 rfl (lv_at hl 0 rfl) ?_
                refine lv_iload hx hb dX10_areOperands_141 (lv_at hl 4 rfl) ?_
                obtain ⟨x33, h33, hF⟩ := ob hF
                refine w_callV (As := [.int (v_c)]) (k := k0) (rest := []) (st1 := [.int (bI (x33))]) X hH (c_X10_isVariable (l := l) (g := g) (w := w) (k0 := k0) (v_v := v_c) h33 hk0) (Or.inl tw_6_176) ms_X10_isVariable im_X10_isVariable hk0 cn_10 ⟨Nat.le_of_ble_eq_true rfl, Nat.le_of_ble_eq_true rfl⟩ rfl rfl hl.1 (Nat.le_of_ble_eq_true rfl) dX10_areOperands_143 ⟨Nat.le_refl _, Nat.le_refl _⟩ rfl (fun H locs hH => ?_)
                refine w_b_f (tgt := 153) hx hb dX10_areOperands_146 (by decide) (fun c32 => ?_) (fun c32 => ?_)
                · replace hF := ifn c32 hF
                  refine lv_iconst (v := (0 : Int32)) hx hb dX10_areOperands_153 (by decide) ?_
                  obtain rfl := se1 hF
                  exact J28 _ _ hH
                · replace hF := ifp c32 hF
                  refine lv_iconst (v := (1 : Int32)) hx hb dX10_areOperands_149 (by decide) ?_
                  refine lv_goto (tgt := 154) hx hb dX10_areOperands_150 (by decide) ?_
                  obtain rfl := se1 hF
                  exact J28 _ _ hH
            · replace hF := ifn c27 hF
              refine lv_tableOut (tgt := 155) hx hb dX10_areOperands_11 (by have := lv_neT c3 (show (0 : Int32).toInt = 0 by decide); have := lv_neT c8 (show (1 : Int32).toInt = 1 by decide); have := lv_neT c13 (show (2 : Int32).toInt = 2 by decide); have := lv_neT c20 (show (3 : Int32).toInt = 3 by decide); have := lv_neT c27 (show (4 : Int32).toInt = 4 by decide); omega) (by decide) ?_
              refine lv_iconst (v := bI false) hx hb dX10_areOperands_155 (by decide) ?_
              obtain rfl := se1 hF
              exact w_zret X hH hr dX10_areOperands_156
  · replace hF := ifp c2 hF
    refine lv_iconst (v := bI false) hx hb dX10_areOperands_8 (by decide) ?_
    obtain rfl := se1 hF
    exact w_zret X hH hr dX10_areOperands_9

theorem dX10_addConstraint_0 : decode cX10_addConstraint 0 = .ok (.aload_n 0, 1) := by decide +kernel
theorem dX10_addConstraint_1 : decode cX10_addConstraint 1 = .ok (.iconst 0, 1) := by decide +kernel
theorem dX10_addConstraint_2 : decode cX10_addConstraint 2 = .ok (.putfield 85, 3) := by decide +kernel
theorem dX10_addConstraint_5 : decode cX10_addConstraint 5 = .ok (.aload_n 0, 1) := by decide +kernel
theorem dX10_addConstraint_6 : decode cX10_addConstraint 6 = .ok (.iload_n 1, 1) := by decide +kernel
theorem dX10_addConstraint_7 : decode cX10_addConstraint 7 = .ok (.iload_n 2, 1) := by decide +kernel
theorem dX10_addConstraint_8 : decode cX10_addConstraint 8 = .ok (.iload_n 3, 1) := by decide +kernel
theorem dX10_addConstraint_9 : decode cX10_addConstraint 9 = .ok (.iload 4, 2) := by decide +kernel
theorem dX10_addConstraint_11 : decode cX10_addConstraint 11 = .ok (.invokevirtual 375, 3) := by decide +kernel
theorem dX10_addConstraint_14 : decode cX10_addConstraint 14 = .ok (.ifCond .ne 5, 3) := by decide +kernel
theorem dX10_addConstraint_17 : decode cX10_addConstraint 17 = .ok (.iconst (-1), 1) := by decide +kernel
theorem dX10_addConstraint_18 : decode cX10_addConstraint 18 = .ok (.ireturn, 1) := by decide +kernel
theorem dX10_addConstraint_19 : decode cX10_addConstraint 19 = .ok (.aload_n 0, 1) := by decide +kernel
theorem dX10_addConstraint_20 : decode cX10_addConstraint 20 = .ok (.getfield 39, 3) := by decide +kernel
theorem dX10_addConstraint_23 : decode cX10_addConstraint 23 = .ok (.iconst 0, 1) := by decide +kernel
theorem dX10_addConstraint_24 : decode cX10_addConstraint 24 = .ok (.iaload, 1) := by decide +kernel
theorem dX10_addConstraint_25 : decode cX10_addConstraint 25 = .ok (.bipush 30, 2) := by decide +kernel
theorem dX10_addConstraint_27 : decode cX10_addConstraint 27 = .ok (.if_icmp .ne 6, 3) := by decide +kernel
theorem dX10_addConstraint_30 : decode cX10_addConstraint 30 = .ok (.bipush (-2), 2) := by decide +kernel
theorem dX10_addConstraint_32 : decode cX10_addConstraint 32 = .ok (.ireturn, 1) := by decide +kernel
theorem dX10_addConstraint_33 : decode cX10_addConstraint 33 = .ok (.aload_n 0, 1) := by decide +kernel
theorem dX10_addConstraint_34 : decode cX10_addConstraint 34 = .ok (.invokevirtual 379, 3) := by decide +kernel
theorem dX10_addConstraint_37 : decode cX10_addConstraint 37 = .ok (.aload_n 0, 1) := by decide +kernel
theorem dX10_addConstraint_38 : decode cX10_addConstraint 38 = .ok (.getfield 39, 3) := by decide +kernel
theorem dX10_addConstraint_41 : decode cX10_addConstraint 41 = .ok (.iconst 0, 1) := by decide +kernel
theorem dX10_addConstraint_42 : decode cX10_addConstraint 42 = .ok (.iaload, 1) := by decide +kernel
theorem dX10_addConstraint_43 : decode cX10_addConstraint 43 = .ok (.istore 5, 2) := by decide +kernel
theorem dX10_addConstraint_45 : decode cX10_addConstraint 45 = .ok (.aload_n 0, 1) := by decide +kernel
theorem dX10_addConstraint_46 : decode cX10_addConstraint 46 = .ok (.getfield 39, 3) := by decide +kernel
theorem dX10_addConstraint_49 : decode cX10_addConstraint 49 = .ok (.iconst 2, 1) := by decide +kernel
theorem dX10_addConstraint_50 : decode cX10_addConstraint 50 = .ok (.iconst 4, 1) := by decide +kernel
theorem dX10_addConstraint_51 : decode cX10_addConstraint 51 = .ok (.iload 5, 2) := by decide +kernel
theorem dX10_addConstraint_53 : decode cX10_addConstraint 53 = .ok (.imul, 1) := by decide +kernel
theorem dX10_addConstraint_54 : decode cX10_addConstraint 54 = .ok (.iadd, 1) := by decide +kernel
theorem dX10_addConstraint_55 : decode cX10_addConstraint 55 = .ok (.iload_n 1, 1) := by decide +kernel
theorem dX10_addConstraint_56 : decode cX10_addConstraint 56 = .ok (.iastore, 1) := by decide +kernel
theorem dX10_addConstraint_57 : decode cX10_addConstraint 57 = .ok (.aload_n 0, 1) := by decide +kernel
theorem dX10_addConstraint_58 : decode cX10_addConstraint 58 = .ok (.getfield 39, 3) := by decide +kernel
theorem dX10_addConstraint_61 : decode cX10_addConstraint 61 = .ok (.iconst 3, 1) := by decide +kernel
theorem dX10_addConstraint_62 : decode cX10_addConstraint 62 = .ok (.iconst 4, 1) := by decide +kernel
theorem dX10_addConstraint_63 : decode cX10_addConstraint 63 = .ok (.iload 5, 2) := by decide +kernel
theorem dX10_addConstraint_65 : decode cX10_addConstraint 65 = .ok (.imul, 1) := by decide +kernel
theorem dX10_addConstraint_66 : decode cX10_addConstraint 66 = .ok (.iadd, 1) := by decide +kernel
theorem dX10_addConstraint_67 : decode cX10_addConstraint 67 = .ok (.iload_n 2, 1) := by decide +kernel
theorem dX10_addConstraint_68 : decode cX10_addConstraint 68 = .ok (.iastore, 1) := by decide +kernel
theorem dX10_addConstraint_69 : decode cX10_addConstraint 69 = .ok (.aload_n 0, 1) := by decide +kernel
theorem dX10_addConstraint_70 : decode cX10_addConstraint 70 = .ok (.getfield 39, 3) := by decide +kernel
theorem dX10_addConstraint_73 : decode cX10_addConstraint 73 = .ok (.iconst 4, 1) := by decide +kernel
theorem dX10_addConstraint_74 : decode cX10_addConstraint 74 = .ok (.iconst 4, 1) := by decide +kernel
theorem dX10_addConstraint_75 : decode cX10_addConstraint 75 = .ok (.iload 5, 2) := by decide +kernel
theorem dX10_addConstraint_77 : decode cX10_addConstraint 77 = .ok (.imul, 1) := by decide +kernel
theorem dX10_addConstraint_78 : decode cX10_addConstraint 78 = .ok (.iadd, 1) := by decide +kernel
theorem dX10_addConstraint_79 : decode cX10_addConstraint 79 = .ok (.iload_n 3, 1) := by decide +kernel
theorem dX10_addConstraint_80 : decode cX10_addConstraint 80 = .ok (.iastore, 1) := by decide +kernel
theorem dX10_addConstraint_81 : decode cX10_addConstraint 81 = .ok (.aload_n 0, 1) := by decide +kernel
theorem dX10_addConstraint_82 : decode cX10_addConstraint 82 = .ok (.getfield 39, 3) := by decide +kernel
theorem dX10_addConstraint_85 : decode cX10_addConstraint 85 = .ok (.iconst 5, 1) := by decide +kernel
theorem dX10_addConstraint_86 : decode cX10_addConstraint 86 = .ok (.iconst 4, 1) := by decide +kernel
theorem dX10_addConstraint_87 : decode cX10_addConstraint 87 = .ok (.iload 5, 2) := by decide +kernel
theorem dX10_addConstraint_89 : decode cX10_addConstraint 89 = .ok (.imul, 1) := by decide +kernel
theorem dX10_addConstraint_90 : decode cX10_addConstraint 90 = .ok (.iadd, 1) := by decide +kernel
theorem dX10_addConstraint_91 : decode cX10_addConstraint 91 = .ok (.iload 4, 2) := by decide +kernel
theorem dX10_addConstraint_93 : decode cX10_addConstraint 93 = .ok (.iastore, 1) := by decide +kernel
theorem dX10_addConstraint_94 : decode cX10_addConstraint 94 = .ok (.aload_n 0, 1) := by decide +kernel
theorem dX10_addConstraint_95 : decode cX10_addConstraint 95 = .ok (.getfield 39, 3) := by decide +kernel
theorem dX10_addConstraint_98 : decode cX10_addConstraint 98 = .ok (.iconst 0, 1) := by decide +kernel
theorem dX10_addConstraint_99 : decode cX10_addConstraint 99 = .ok (.iload 5, 2) := by decide +kernel
theorem dX10_addConstraint_101 : decode cX10_addConstraint 101 = .ok (.iconst 1, 1) := by decide +kernel
theorem dX10_addConstraint_102 : decode cX10_addConstraint 102 = .ok (.iadd, 1) := by decide +kernel
theorem dX10_addConstraint_103 : decode cX10_addConstraint 103 = .ok (.iastore, 1) := by decide +kernel
theorem dX10_addConstraint_104 : decode cX10_addConstraint 104 = .ok (.aload_n 0, 1) := by decide +kernel
theorem dX10_addConstraint_105 : decode cX10_addConstraint 105 = .ok (.getfield 39, 3) := by decide +kernel
theorem dX10_addConstraint_108 : decode cX10_addConstraint 108 = .ok (.iconst 1, 1) := by decide +kernel
theorem dX10_addConstraint_109 : decode cX10_addConstraint 109 = .ok (.dup2, 1) := by decide +kernel
theorem dX10_addConstraint_110 : decode cX10_addConstraint 110 = .ok (.iaload, 1) := by decide +kernel
theorem dX10_addConstraint_111 : decode cX10_addConstraint 111 = .ok (.iconst 1, 1) := by decide +kernel
theorem dX10_addConstraint_112 : decode cX10_addConstraint 112 = .ok (.iload 5, 2) := by decide +kernel
theorem dX10_addConstraint_114 : decode cX10_addConstraint 114 = .ok (.ishl, 1) := by decide +kernel
theorem dX10_addConstraint_115 : decode cX10_addConstraint 115 = .ok (.ior, 1) := by decide +kernel
theorem dX10_addConstraint_116 : decode cX10_addConstraint 116 = .ok (.iastore, 1) := by decide +kernel
theorem dX10_addConstraint_117 : decode cX10_addConstraint 117 = .ok (.aload_n 0, 1) := by decide +kernel
theorem dX10_addConstraint_118 : decode cX10_addConstraint 118 = .ok (.invokevirtual 82, 3) := by decide +kernel
theorem dX10_addConstraint_121 : decode cX10_addConstraint 121 = .ok (.iload 5, 2) := by decide +kernel
theorem dX10_addConstraint_123 : decode cX10_addConstraint 123 = .ok (.ireturn, 1) := by decide +kernel
set_option maxHeartbeats 4000000 in
set_option maxRecDepth 100000 in
theorem c_X10_addConstraint {l : Launch} {g : Gh} {w : Wd} {k0 : Nat} {v_kind : Int32} {v_a : Int32} {v_b : Int32} {v_c : Int32} {rz : Int32} {wz : Wd} (hF : f_X10_addConstraint w k0 v_kind v_a v_b v_c = some (rz, wz)) (hk0 : zct zM k0 = 10) : Met l yX10_addConstraint (Cond.code yX10_addConstraint cX10_addConstraint 6 (some .int) :: TT) (rmd 3) (Pcw zM g w [.ref (g.2.2 k0), .int (v_kind), .int (v_a), .int (v_b), .int (v_c)]) (Qw zM g wz (some (.int (rz)))) 0 0 (zA zM g) := by
  refine mt_start (by decide) (Nat.le_of_ble_eq_true rfl) ?_
  intro p e s m args below meth c H locs ls X hr hl hH
  have hx := X.1
  have hb := X.2.1
  have hml := X.2.2.1
  have hown := X.2.2.2.1
  have ht := X.2.2.2.2.1
  have hl : lv_has ls 6 [(0, .ref (g.2.2 (k0))), (1, .int (v_kind)), (2, .int (v_a)), (3, .int (v_b)), (4, .int (v_c))] := hl
  unfold f_X10_addConstraint at hF
  refine lv_aload_n hx hb dX10_addConstraint_0 rfl (lv_at hl 0 rfl) ?_
  refine lv_iconst (v := (0 : Int32)) hx hb dX10_addConstraint_1 (by decide) ?_
  obtain ⟨w1, h1, hF⟩ := ob hF
  refine w_puti X hH h1 hk0 fs_10_0 nf_10_0 lk_10_85 dX10_addConstraint_2 (fun H locs hH => ?_)
  refine lv_aload_n hx hb dX10_addConstraint_5 rfl (lv_at hl 0 rfl) ?_
  refine lv_iload_n hx hb dX10_addConstraint_6 rfl (lv_at hl 1 rfl) ?_
  refine lv_iload_n hx hb dX10_addConstraint_7 rfl (lv_at hl 2 rfl) ?_
  refine lv_iload_n hx hb dX10_addConstraint_8 rfl (lv_at hl 3 rfl) ?_
  refine lv_iload hx hb dX10_addConstraint_9 (lv_at hl 4 rfl) ?_
  obtain ⟨x2, h2, hF⟩ := ob hF
  refine w_callV (As := [.int (v_kind), .int (v_a), .int (v_b), .int (v_c)]) (k := k0) (rest := []) (st1 := [.int (bI (x2))]) X hH (c_X10_areOperands (l := l) (g := g) (w := w1) (k0 := k0) (v_kind := v_kind) (v_a := v_a) (v_b := v_b) (v_c := v_c) h2 hk0) (Or.inl tw_7_159) ms_X10_areOperands im_X10_areOperands hk0 cn_10 ⟨Nat.le_of_ble_eq_true rfl, Nat.le_of_ble_eq_true rfl⟩ rfl rfl hl.1 (Nat.le_of_ble_eq_true rfl) dX10_addConstraint_11 ⟨Nat.le_refl _, Nat.le_refl _⟩ rfl (fun H locs hH => ?_)
  refine w_b_t (tgt := 19) hx hb dX10_addConstraint_14 (by decide) (fun c3 => ?_) (fun c3 => ?_)
  · replace hF := ifn (fun z => z c3) hF
    refine lv_aload_n hx hb dX10_addConstraint_19 rfl (lv_at hl 0 rfl) ?_
    refine w_getr X hH hk0 fs_10_18 lk_10_39 dX10_addConstraint_20 ?_
    refine lv_iconst (v := (0 : Int32)) hx hb dX10_addConstraint_23 (by decide) ?_
    obtain ⟨x4, h4, hF⟩ := ob hF
    refine w_iald X hH h4 (rt_M_10_18 hk0) dX10_addConstraint_24 ?_
    refine lv_bipush (v := (30 : Int32)) hx hb dX10_addConstraint_25 (by decide) ?_
    refine w_ieq_f (tgt := 33) hx hb dX10_addConstraint_27 (by decide) (fun c5 => ?_) (fun c5 => ?_)
    · replace hF := ifn c5 hF
      refine lv_aload_n hx hb dX10_addConstraint_33 rfl (lv_at hl 0 rfl) ?_
      obtain ⟨w6, h6, hF⟩ := ob hF
      refine w_callV (As := []) (k := k0) (rest := []) (st1 := []) X hH (c_X10_keepState (l := l) (g := g) (w := w1) (k0 := k0) h6 hk0) (Or.inl tw_7_163) ms_X10_keepState im_X10_keepState hk0 cn_10 ⟨Nat.le_of_ble_eq_true rfl, Nat.le_of_ble_eq_true rfl⟩ rfl rfl hl.1 (Nat.le_of_ble_eq_true rfl) dX10_addConstraint_34 ⟨Nat.le_refl _, Nat.le_refl _⟩ rfl (fun H locs hH => ?_)
      refine lv_aload_n hx hb dX10_addConstraint_37 rfl (lv_at hl 0 rfl) ?_
      refine w_getr X hH hk0 fs_10_18 lk_10_39 dX10_addConstraint_38 ?_
      refine lv_iconst (v := (0 : Int32)) hx hb dX10_addConstraint_41 (by decide) ?_
      obtain ⟨x7, h7, hF⟩ := ob hF
      refine w_iald X hH h7 (rt_M_10_18 hk0) dX10_addConstraint_42 ?_
      refine lv_istore (lv' := [(5, .int (x7)), (0, .ref (g.2.2 (k0))), (1, .int (v_kind)), (2, .int (v_a)), (3, .int (v_b)), (4, .int (v_c))]) hx hb dX10_addConstraint_43 hl (by decide) rfl (fun ls hl => ?_)
      refine lv_aload_n hx hb dX10_addConstraint_45 rfl (lv_at hl 1 rfl) ?_
      refine w_getr X hH hk0 fs_10_18 lk_10_39 dX10_addConstraint_46 ?_
      refine lv_iconst (v := (2 : Int32)) hx hb dX10_addConstraint_49 (by decide) ?_
      refine lv_iconst (v := (4 : Int32)) hx hb dX10_addConstraint_50 (by decide) ?_
      refine lv_iload hx hb dX10_addConstraint_51 (lv_at hl 0 rfl) ?_
      refine lv_imul hx hb dX10_addConstraint_53 ?_
      refine lv_iadd hx hb dX10_addConstraint_54 ?_
      refine lv_iload_n hx hb dX10_addConstraint_55 rfl (lv_at hl 2 rfl) ?_
      obtain ⟨w8, h8, hF⟩ := ob hF
      refine w_iast X hH h8 (rt_M_10_18 hk0) dX10_addConstraint_56 (fun H locs hH => ?_)
      refine lv_aload_n hx hb dX10_addConstraint_57 rfl (lv_at hl 1 rfl) ?_
      refine w_getr X hH hk0 fs_10_18 lk_10_39 dX10_addConstraint_58 ?_
      refine lv_iconst (v := (3 : Int32)) hx hb dX10_addConstraint_61 (by decide) ?_
      refine lv_iconst (v := (4 : Int32)) hx hb dX10_addConstraint_62 (by decide) ?_
      refine lv_iload hx hb dX10_addConstraint_63 (lv_at hl 0 rfl) ?_
      refine lv_imul hx hb dX10_addConstraint_65 ?_
      refine lv_iadd hx hb dX10_addConstraint_66 ?_
      refine lv_iload_n hx hb dX10_addConstraint_67 rfl (lv_at hl 3 rfl) ?_
      obtain ⟨w9, h9, hF⟩ := ob hF
      refine w_iast X hH h9 (rt_M_10_18 hk0) dX10_addConstraint_68 (fun H locs hH => ?_)
      refine lv_aload_n hx hb dX10_addConstraint_69 rfl (lv_at hl 1 rfl) ?_
      refine w_getr X hH hk0 fs_10_18 lk_10_39 dX10_addConstraint_70 ?_
      refine lv_iconst (v := (4 : Int32)) hx hb dX10_addConstraint_73 (by decide) ?_
      refine lv_iconst (v := (4 : Int32)) hx hb dX10_addConstraint_74 (by decide) ?_
      refine lv_iload hx hb dX10_addConstraint_75 (lv_at hl 0 rfl) ?_
      refine lv_imul hx hb dX10_addConstraint_77 ?_
      refine lv_iadd hx hb dX10_addConstraint_78 ?_
      refine lv_iload_n hx hb dX10_addConstraint_79 rfl (lv_at hl 4 rfl) ?_
      obtain ⟨w10, h10, hF⟩ := ob hF
      refine w_iast X hH h10 (rt_M_10_18 hk0) dX10_addConstraint_80 (fun H locs hH => ?_)
      refine lv_aload_n hx hb dX10_addConstraint_81 rfl (lv_at hl 1 rfl) ?_
      refine w_getr X hH hk0 fs_10_18 lk_10_39 dX10_addConstraint_82 ?_
      refine lv_iconst (v := (5 : Int32)) hx hb dX10_addConstraint_85 (by decide) ?_
      refine lv_iconst (v := (4 : Int32)) hx hb dX10_addConstraint_86 (by decide) ?_
      refine lv_iload hx hb dX10_addConstraint_87 (lv_at hl 0 rfl) ?_
      refine lv_imul hx hb dX10_addConstraint_89 ?_
      refine lv_iadd hx hb dX10_addConstraint_90 ?_
      refine lv_iload hx hb dX10_addConstraint_91 (lv_at hl 5 rfl) ?_
      obtain ⟨w11, h11, hF⟩ := ob hF
      refine w_iast X hH h11 (rt_M_10_18 hk0) dX10_addConstraint_93 (fun H locs hH => ?_)
      refine lv_aload_n hx hb dX10_addConstraint_94 rfl (lv_at hl 1 rfl) ?_
      refine w_getr X hH hk0 fs_10_18 lk_10_39 dX10_addConstraint_95 ?_
      refine lv_iconst (v := (0 : Int32)) hx hb dX10_addConstraint_98 (by decide) ?_
      refine lv_iload hx hb dX10_addConstraint_99 (lv_at hl 0 rfl) ?_
      refine lv_iconst (v := (1 : Int32)) hx hb dX10_addConstraint_101 (by decide) ?_
      refine lv_iadd hx hb dX10_addConstraint_102 ?_
      obtain ⟨w12, h12, hF⟩ := ob hF
      refine w_iast X hH h12 (rt_M_10_18 hk0) dX10_addConstraint_103 (fun H locs hH => ?_)
      refine lv_aload_n hx hb dX10_addConstraint_104 rfl (lv_at hl 1 rfl) ?_
      refine w_getr X hH hk0 fs_10_18 lk_10_39 dX10_addConstraint_105 ?_
      refine lv_iconst (v := (1 : Int32)) hx hb dX10_addConstraint_108 (by decide) ?_
      refine lv_dup2_11 hx hb dX10_addConstraint_109 rfl rfl ?_
      obtain ⟨x13, h13, hF⟩ := ob hF
      refine w_iald X hH h13 (rt_M_10_18 hk0) dX10_addConstraint_110 ?_
      refine lv_iconst (v := (1 : Int32)) hx hb dX10_addConstraint_111 (by decide) ?_
      refine lv_iload hx hb dX10_addConstraint_112 (lv_at hl 0 rfl) ?_
      refine w_ishl hx hb dX10_addConstraint_114 ?_
      refine lv_ior hx hb dX10_addConstraint_115 ?_
      obtain ⟨w14, h14, hF⟩ := ob hF
      refine w_iast X hH h14 (rt_M_10_18 hk0) dX10_addConstraint_116 (fun H locs hH => ?_)
      refine lv_aload_n hx hb dX10_addConstraint_117 rfl (lv_at hl 1 rfl) ?_
      obtain ⟨w15, h15, hF⟩ := ob hF
      refine w_callV (As := []) (k := k0) (rest := []) (st1 := []) X hH (c_X10_solve (l := l) (g := g) (w := w14) (k0 := k0) h15 hk0) (Or.inl tw_5_33) ms_X10_solve im_X10_solve hk0 cn_10 ⟨Nat.le_of_ble_eq_true rfl, Nat.le_of_ble_eq_true rfl⟩ rfl rfl hl.1 (Nat.le_of_ble_eq_true rfl) dX10_addConstraint_118 ⟨Nat.le_refl _, Nat.le_refl _⟩ rfl (fun H locs hH => ?_)
      refine lv_iload hx hb dX10_addConstraint_121 (lv_at hl 0 rfl) ?_
      obtain ⟨rfl, rfl⟩ := se2 hF
      exact w_iret X hH hr dX10_addConstraint_123
    · replace hF := ifp c5 hF
      refine lv_bipush (v := (-2 : Int32)) hx hb dX10_addConstraint_30 (by decide) ?_
      obtain ⟨rfl, rfl⟩ := se2 hF
      exact w_iret X hH hr dX10_addConstraint_32
  · replace hF := ifp c3 hF
    refine lv_iconst (v := (-1 : Int32)) hx hb dX10_addConstraint_17 (by decide) ?_
    obtain ⟨rfl, rfl⟩ := se2 hF
    exact w_iret X hH hr dX10_addConstraint_18

theorem dX10_setEnabled_0 : decode cX10_setEnabled 0 = .ok (.aload_n 0, 1) := by decide +kernel
theorem dX10_setEnabled_1 : decode cX10_setEnabled 1 = .ok (.iconst 0, 1) := by decide +kernel
theorem dX10_setEnabled_2 : decode cX10_setEnabled 2 = .ok (.putfield 85, 3) := by decide +kernel
theorem dX10_setEnabled_5 : decode cX10_setEnabled 5 = .ok (.aload_n 0, 1) := by decide +kernel
theorem dX10_setEnabled_6 : decode cX10_setEnabled 6 = .ok (.iload_n 1, 1) := by decide +kernel
theorem dX10_setEnabled_7 : decode cX10_setEnabled 7 = .ok (.invokevirtual 214, 3) := by decide +kernel
theorem dX10_setEnabled_10 : decode cX10_setEnabled 10 = .ok (.ifCond .eq 12, 3) := by decide +kernel
theorem dX10_setEnabled_13 : decode cX10_setEnabled 13 = .ok (.aload_n 0, 1) := by decide +kernel
theorem dX10_setEnabled_14 : decode cX10_setEnabled 14 = .ok (.iload_n 1, 1) := by decide +kernel
theorem dX10_setEnabled_15 : decode cX10_setEnabled 15 = .ok (.invokevirtual 251, 3) := by decide +kernel
theorem dX10_setEnabled_18 : decode cX10_setEnabled 18 = .ok (.iload_n 2, 1) := by decide +kernel
theorem dX10_setEnabled_19 : decode cX10_setEnabled 19 = .ok (.if_icmp .ne 5, 3) := by decide +kernel
theorem dX10_setEnabled_22 : decode cX10_setEnabled 22 = .ok (.iconst 0, 1) := by decide +kernel
theorem dX10_setEnabled_23 : decode cX10_setEnabled 23 = .ok (.ireturn, 1) := by decide +kernel
theorem dX10_setEnabled_24 : decode cX10_setEnabled 24 = .ok (.aload_n 0, 1) := by decide +kernel
theorem dX10_setEnabled_25 : decode cX10_setEnabled 25 = .ok (.invokevirtual 379, 3) := by decide +kernel
theorem dX10_setEnabled_28 : decode cX10_setEnabled 28 = .ok (.aload_n 0, 1) := by decide +kernel
theorem dX10_setEnabled_29 : decode cX10_setEnabled 29 = .ok (.getfield 39, 3) := by decide +kernel
theorem dX10_setEnabled_32 : decode cX10_setEnabled 32 = .ok (.iconst 1, 1) := by decide +kernel
theorem dX10_setEnabled_33 : decode cX10_setEnabled 33 = .ok (.dup2, 1) := by decide +kernel
theorem dX10_setEnabled_34 : decode cX10_setEnabled 34 = .ok (.iaload, 1) := by decide +kernel
theorem dX10_setEnabled_35 : decode cX10_setEnabled 35 = .ok (.iconst 1, 1) := by decide +kernel
theorem dX10_setEnabled_36 : decode cX10_setEnabled 36 = .ok (.iload_n 1, 1) := by decide +kernel
theorem dX10_setEnabled_37 : decode cX10_setEnabled 37 = .ok (.ishl, 1) := by decide +kernel
theorem dX10_setEnabled_38 : decode cX10_setEnabled 38 = .ok (.ixor, 1) := by decide +kernel
theorem dX10_setEnabled_39 : decode cX10_setEnabled 39 = .ok (.iastore, 1) := by decide +kernel
theorem dX10_setEnabled_40 : decode cX10_setEnabled 40 = .ok (.aload_n 0, 1) := by decide +kernel
theorem dX10_setEnabled_41 : decode cX10_setEnabled 41 = .ok (.invokevirtual 82, 3) := by decide +kernel
theorem dX10_setEnabled_44 : decode cX10_setEnabled 44 = .ok (.iconst 1, 1) := by decide +kernel
theorem dX10_setEnabled_45 : decode cX10_setEnabled 45 = .ok (.ireturn, 1) := by decide +kernel
set_option maxHeartbeats 4000000 in
set_option maxRecDepth 100000 in
theorem c_X10_setEnabled {l : Launch} {g : Gh} {w : Wd} {k0 : Nat} {v_c : Int32} {v_enabled : Bool} {rz : Bool} {wz : Wd} (hF : f_X10_setEnabled w k0 v_c v_enabled = some (rz, wz)) (hk0 : zct zM k0 = 10) : Met l yX10_setEnabled (Cond.code yX10_setEnabled cX10_setEnabled 3 (some .boolean) :: TT) (rmd 3) (Pcw zM g w [.ref (g.2.2 k0), .int (v_c), .int (bI (v_enabled))]) (Qw zM g wz (some (.int (bI (rz))))) 0 0 (zA zM g) := by
  refine mt_start (by decide) (Nat.le_of_ble_eq_true rfl) ?_
  intro p e s m args below meth c H locs ls X hr hl hH
  have hx := X.1
  have hb := X.2.1
  have hml := X.2.2.1
  have hown := X.2.2.2.1
  have ht := X.2.2.2.2.1
  have hl : lv_has ls 3 [(0, .ref (g.2.2 (k0))), (1, .int (v_c)), (2, .int (bI (v_enabled)))] := hl
  unfold f_X10_setEnabled at hF
  refine lv_aload_n hx hb dX10_setEnabled_0 rfl (lv_at hl 0 rfl) ?_
  refine lv_iconst (v := (0 : Int32)) hx hb dX10_setEnabled_1 (by decide) ?_
  obtain ⟨w1, h1, hF⟩ := ob hF
  refine w_puti X hH h1 hk0 fs_10_0 nf_10_0 lk_10_85 dX10_setEnabled_2 (fun H locs hH => ?_)
  obtain ⟨b2, hb2, hF⟩ := ob hF
  have Jb2T : b2 = true → ∀ (H : Heap) (locs : List Loc), HW zM g w1 s.heap H locs → W p l e (rmd 3) s m args below meth c H locs 0 0 (MQ below (Qw zM g wz (some (.int (bI (rz))))) args s 0 0 (zA zM g)) (F0 m 22 ls []) := by
    intro hc H locs hH
    replace hF := ifp hc hF
    refine lv_iconst (v := bI false) hx hb dX10_setEnabled_22 (by decide) ?_
    obtain ⟨rfl, rfl⟩ := se2 hF
    exact w_zret X hH hr dX10_setEnabled_23
  have Jb2F : ¬ (b2 = true) → ∀ (H : Heap) (locs : List Loc), HW zM g w1 s.heap H locs → W p l e (rmd 3) s m args below meth c H locs 0 0 (MQ below (Qw zM g wz (some (.int (bI (rz))))) args s 0 0 (zA zM g)) (F0 m 24 ls []) := by
    intro hc H locs hH
    replace hF := ifn hc hF
    refine lv_aload_n hx hb dX10_setEnabled_24 rfl (lv_at hl 0 rfl) ?_
    obtain ⟨w7, h7, hF⟩ := ob hF
    refine w_callV (As := []) (k := k0) (rest := []) (st1 := []) X hH (c_X10_keepState (l := l) (g := g) (w := w1) (k0 := k0) h7 hk0) (Or.inl tw_7_163) ms_X10_keepState im_X10_keepState hk0 cn_10 ⟨Nat.le_of_ble_eq_true rfl, Nat.le_of_ble_eq_true rfl⟩ rfl rfl hl.1 (Nat.le_of_ble_eq_true rfl) dX10_setEnabled_25 ⟨Nat.le_refl _, Nat.le_refl _⟩ rfl (fun H locs hH => ?_)
    refine lv_aload_n hx hb dX10_setEnabled_28 rfl (lv_at hl 0 rfl) ?_
    refine w_getr X hH hk0 fs_10_18 lk_10_39 dX10_setEnabled_29 ?_
    refine lv_iconst (v := (1 : Int32)) hx hb dX10_setEnabled_32 (by decide) ?_
    refine lv_dup2_11 hx hb dX10_setEnabled_33 rfl rfl ?_
    obtain ⟨x8, h8, hF⟩ := ob hF
    refine w_iald X hH h8 (rt_M_10_18 hk0) dX10_setEnabled_34 ?_
    refine lv_iconst (v := (1 : Int32)) hx hb dX10_setEnabled_35 (by decide) ?_
    refine lv_iload_n hx hb dX10_setEnabled_36 rfl (lv_at hl 1 rfl) ?_
    refine w_ishl hx hb dX10_setEnabled_37 ?_
    refine lv_ixor hx hb dX10_setEnabled_38 ?_
    obtain ⟨w9, h9, hF⟩ := ob hF
    refine w_iast X hH h9 (rt_M_10_18 hk0) dX10_setEnabled_39 (fun H locs hH => ?_)
    refine lv_aload_n hx hb dX10_setEnabled_40 rfl (lv_at hl 0 rfl) ?_
    obtain ⟨w10, h10, hF⟩ := ob hF
    refine w_callV (As := []) (k := k0) (rest := []) (st1 := []) X hH (c_X10_solve (l := l) (g := g) (w := w9) (k0 := k0) h10 hk0) (Or.inl tw_5_33) ms_X10_solve im_X10_solve hk0 cn_10 ⟨Nat.le_of_ble_eq_true rfl, Nat.le_of_ble_eq_true rfl⟩ rfl rfl hl.1 (Nat.le_of_ble_eq_true rfl) dX10_setEnabled_41 ⟨Nat.le_refl _, Nat.le_refl _⟩ rfl (fun H locs hH => ?_)
    refine lv_iconst (v := bI true) hx hb dX10_setEnabled_44 (by decide) ?_
    obtain ⟨rfl, rfl⟩ := se2 hF
    exact w_zret X hH hr dX10_setEnabled_45
  have hF := hb2
  refine lv_aload_n hx hb dX10_setEnabled_5 rfl (lv_at hl 0 rfl) ?_
  refine lv_iload_n hx hb dX10_setEnabled_6 rfl (lv_at hl 1 rfl) ?_
  obtain ⟨x4, h4, hF⟩ := ob hF
  refine w_callV (As := [.int (v_c)]) (k := k0) (rest := []) (st1 := [.int (bI (x4))]) X hH (c_X10_isConstraint (l := l) (g := g) (w := w1) (k0 := k0) (v_c := v_c) h4 hk0) (Or.inl tw_6_132) ms_X10_isConstraint im_X10_isConstraint hk0 cn_10 ⟨Nat.le_of_ble_eq_true rfl, Nat.le_of_ble_eq_true rfl⟩ rfl rfl hl.1 (Nat.le_of_ble_eq_true rfl) dX10_setEnabled_7 ⟨Nat.le_refl _, Nat.le_refl _⟩ rfl (fun H locs hH => ?_)
  refine w_b_f (tgt := 22) hx hb dX10_setEnabled_10 (by decide) (fun c3 => ?_) (fun c3 => ?_)
  · replace hF := ifn c3 hF
    obtain rfl := se1 hF
    exact Jb2T rfl _ _ hH
  · replace hF := ifp c3 hF
    refine lv_aload_n hx hb dX10_setEnabled_13 rfl (lv_at hl 0 rfl) ?_
    refine lv_iload_n hx hb dX10_setEnabled_14 rfl (lv_at hl 1 rfl) ?_
    obtain ⟨x6, h6, hF⟩ := ob hF
    refine w_callV (As := [.int (v_c)]) (k := k0) (rest := []) (st1 := [.int (bI (x6))]) X hH (c_X10_isEnabled (l := l) (g := g) (w := w1) (k0 := k0) (v_c := v_c) h6 hk0) (Or.inl tw_5_37) ms_X10_isEnabled im_X10_isEnabled hk0 cn_10 ⟨Nat.le_of_ble_eq_true rfl, Nat.le_of_ble_eq_true rfl⟩ rfl rfl hl.1 (Nat.le_of_ble_eq_true rfl) dX10_setEnabled_15 ⟨Nat.le_refl _, Nat.le_refl _⟩ rfl (fun H locs hH => ?_)
    refine lv_iload_n hx hb dX10_setEnabled_18 rfl (lv_at hl 2 rfl) ?_
    refine w_bb_f (tgt := 24) hx hb dX10_setEnabled_19 (by decide) (fun c5 => ?_) (fun c5 => ?_)
    · replace hF := ifn c5 hF
      obtain rfl := se1 hF
      exact Jb2F Bool.false_ne_true _ _ hH
    · replace hF := ifp c5 hF
      obtain rfl := se1 hF
      exact Jb2T rfl _ _ hH
