theorem dX10_proof_0 : decode cX10_proof 0 = .ok (.aload_n 0, 1) := by decide +kernel
theorem dX10_proof_1 : decode cX10_proof 1 = .ok (.iconst 0, 1) := by decide +kernel
theorem dX10_proof_2 : decode cX10_proof 2 = .ok (.putfield 85, 3) := by decide +kernel
theorem dX10_proof_5 : decode cX10_proof 5 = .ok (.aload_n 0, 1) := by decide +kernel
theorem dX10_proof_6 : decode cX10_proof 6 = .ok (.iload_n 1, 1) := by decide +kernel
theorem dX10_proof_7 : decode cX10_proof 7 = .ok (.iload_n 2, 1) := by decide +kernel
theorem dX10_proof_8 : decode cX10_proof 8 = .ok (.invokevirtual 297, 3) := by decide +kernel
theorem dX10_proof_11 : decode cX10_proof 11 = .ok (.ifCond .ne 5, 3) := by decide +kernel
theorem dX10_proof_14 : decode cX10_proof 14 = .ok (.iconst (-1), 1) := by decide +kernel
theorem dX10_proof_15 : decode cX10_proof 15 = .ok (.ireturn, 1) := by decide +kernel
theorem dX10_proof_16 : decode cX10_proof 16 = .ok (.aload_n 0, 1) := by decide +kernel
theorem dX10_proof_17 : decode cX10_proof 17 = .ok (.aload_n 0, 1) := by decide +kernel
theorem dX10_proof_18 : decode cX10_proof 18 = .ok (.iload_n 1, 1) := by decide +kernel
theorem dX10_proof_19 : decode cX10_proof 19 = .ok (.invokevirtual 263, 3) := by decide +kernel
theorem dX10_proof_22 : decode cX10_proof 22 = .ok (.iload_n 2, 1) := by decide +kernel
theorem dX10_proof_23 : decode cX10_proof 23 = .ok (.invokevirtual 266, 3) := by decide +kernel
theorem dX10_proof_26 : decode cX10_proof 26 = .ok (.ifCond .ne 5, 3) := by decide +kernel
theorem dX10_proof_29 : decode cX10_proof 29 = .ok (.iconst 0, 1) := by decide +kernel
theorem dX10_proof_30 : decode cX10_proof 30 = .ok (.ireturn, 1) := by decide +kernel
theorem dX10_proof_31 : decode cX10_proof 31 = .ok (.iconst 0, 1) := by decide +kernel
theorem dX10_proof_32 : decode cX10_proof 32 = .ok (.istore_n 3, 1) := by decide +kernel
theorem dX10_proof_33 : decode cX10_proof 33 = .ok (.iload_n 3, 1) := by decide +kernel
theorem dX10_proof_34 : decode cX10_proof 34 = .ok (.sipush 560, 3) := by decide +kernel
theorem dX10_proof_37 : decode cX10_proof 37 = .ok (.if_icmp .ge 16, 3) := by decide +kernel
theorem dX10_proof_40 : decode cX10_proof 40 = .ok (.aload_n 0, 1) := by decide +kernel
theorem dX10_proof_41 : decode cX10_proof 41 = .ok (.getfield 67, 3) := by decide +kernel
theorem dX10_proof_44 : decode cX10_proof 44 = .ok (.iload_n 3, 1) := by decide +kernel
theorem dX10_proof_45 : decode cX10_proof 45 = .ok (.iconst 0, 1) := by decide +kernel
theorem dX10_proof_46 : decode cX10_proof 46 = .ok (.bastore, 1) := by decide +kernel
theorem dX10_proof_47 : decode cX10_proof 47 = .ok (.iinc 3 1, 3) := by decide +kernel
theorem dX10_proof_50 : decode cX10_proof 50 = .ok (.goto (-17), 3) := by decide +kernel
theorem dX10_proof_53 : decode cX10_proof 53 = .ok (.aload_n 0, 1) := by decide +kernel
theorem dX10_proof_54 : decode cX10_proof 54 = .ok (.iconst 0, 1) := by decide +kernel
theorem dX10_proof_55 : decode cX10_proof 55 = .ok (.putfield 314, 3) := by decide +kernel
theorem dX10_proof_58 : decode cX10_proof 58 = .ok (.aload_n 0, 1) := by decide +kernel
theorem dX10_proof_59 : decode cX10_proof 59 = .ok (.aload_n 0, 1) := by decide +kernel
theorem dX10_proof_60 : decode cX10_proof 60 = .ok (.iload_n 1, 1) := by decide +kernel
theorem dX10_proof_61 : decode cX10_proof 61 = .ok (.invokevirtual 263, 3) := by decide +kernel
theorem dX10_proof_64 : decode cX10_proof 64 = .ok (.iload_n 2, 1) := by decide +kernel
theorem dX10_proof_65 : decode cX10_proof 65 = .ok (.invokevirtual 317, 3) := by decide +kernel
theorem dX10_proof_68 : decode cX10_proof 68 = .ok (.iconst 0, 1) := by decide +kernel
theorem dX10_proof_69 : decode cX10_proof 69 = .ok (.istore_n 3, 1) := by decide +kernel
theorem dX10_proof_70 : decode cX10_proof 70 = .ok (.iconst 0, 1) := by decide +kernel
theorem dX10_proof_71 : decode cX10_proof 71 = .ok (.istore 4, 2) := by decide +kernel
theorem dX10_proof_73 : decode cX10_proof 73 = .ok (.iload 4, 2) := by decide +kernel
theorem dX10_proof_75 : decode cX10_proof 75 = .ok (.aload_n 0, 1) := by decide +kernel
theorem dX10_proof_76 : decode cX10_proof 76 = .ok (.getfield 314, 3) := by decide +kernel
theorem dX10_proof_79 : decode cX10_proof 79 = .ok (.if_icmp .ge 110, 3) := by decide +kernel
theorem dX10_proof_82 : decode cX10_proof 82 = .ok (.aload_n 0, 1) := by decide +kernel
theorem dX10_proof_83 : decode cX10_proof 83 = .ok (.getfield 64, 3) := by decide +kernel
theorem dX10_proof_86 : decode cX10_proof 86 = .ok (.iload 4, 2) := by decide +kernel
theorem dX10_proof_88 : decode cX10_proof 88 = .ok (.iaload, 1) := by decide +kernel
theorem dX10_proof_89 : decode cX10_proof 89 = .ok (.bipush 10, 2) := by decide +kernel
theorem dX10_proof_91 : decode cX10_proof 91 = .ok (.irem, 1) := by decide +kernel
theorem dX10_proof_92 : decode cX10_proof 92 = .ok (.istore 5, 2) := by decide +kernel
theorem dX10_proof_94 : decode cX10_proof 94 = .ok (.aload_n 0, 1) := by decide +kernel
theorem dX10_proof_95 : decode cX10_proof 95 = .ok (.aload_n 0, 1) := by decide +kernel
theorem dX10_proof_96 : decode cX10_proof 96 = .ok (.getfield 64, 3) := by decide +kernel
theorem dX10_proof_99 : decode cX10_proof 99 = .ok (.iload 4, 2) := by decide +kernel
theorem dX10_proof_101 : decode cX10_proof 101 = .ok (.iaload, 1) := by decide +kernel
theorem dX10_proof_102 : decode cX10_proof 102 = .ok (.bipush 10, 2) := by decide +kernel
theorem dX10_proof_104 : decode cX10_proof 104 = .ok (.idiv, 1) := by decide +kernel
theorem dX10_proof_105 : decode cX10_proof 105 = .ok (.iload 5, 2) := by decide +kernel
theorem dX10_proof_107 : decode cX10_proof 107 = .ok (.iconst 1, 1) := by decide +kernel
theorem dX10_proof_108 : decode cX10_proof 108 = .ok (.invokevirtual 300, 3) := by decide +kernel
theorem dX10_proof_111 : decode cX10_proof 111 = .ok (.iload_n 3, 1) := by decide +kernel
theorem dX10_proof_112 : decode cX10_proof 112 = .ok (.iconst 1, 1) := by decide +kernel
theorem dX10_proof_113 : decode cX10_proof 113 = .ok (.aload_n 0, 1) := by decide +kernel
theorem dX10_proof_114 : decode cX10_proof 114 = .ok (.getfield 280, 3) := by decide +kernel
theorem dX10_proof_117 : decode cX10_proof 117 = .ok (.ishl, 1) := by decide +kernel
theorem dX10_proof_118 : decode cX10_proof 118 = .ok (.ior, 1) := by decide +kernel
theorem dX10_proof_119 : decode cX10_proof 119 = .ok (.istore_n 3, 1) := by decide +kernel
theorem dX10_proof_120 : decode cX10_proof 120 = .ok (.aload_n 0, 1) := by decide +kernel
theorem dX10_proof_121 : decode cX10_proof 121 = .ok (.getfield 286, 3) := by decide +kernel
theorem dX10_proof_124 : decode cX10_proof 124 = .ok (.ifCond .lt 13, 3) := by decide +kernel
theorem dX10_proof_127 : decode cX10_proof 127 = .ok (.aload_n 0, 1) := by decide +kernel
theorem dX10_proof_128 : decode cX10_proof 128 = .ok (.aload_n 0, 1) := by decide +kernel
theorem dX10_proof_129 : decode cX10_proof 129 = .ok (.getfield 286, 3) := by decide +kernel
theorem dX10_proof_132 : decode cX10_proof 132 = .ok (.iload 5, 2) := by decide +kernel
theorem dX10_proof_134 : decode cX10_proof 134 = .ok (.invokevirtual 317, 3) := by decide +kernel
theorem dX10_proof_137 : decode cX10_proof 137 = .ok (.aload_n 0, 1) := by decide +kernel
theorem dX10_proof_138 : decode cX10_proof 138 = .ok (.getfield 283, 3) := by decide +kernel
theorem dX10_proof_141 : decode cX10_proof 141 = .ok (.ifCond .lt 42, 3) := by decide +kernel
theorem dX10_proof_144 : decode cX10_proof 144 = .ok (.aload_n 0, 1) := by decide +kernel
theorem dX10_proof_145 : decode cX10_proof 145 = .ok (.aload_n 0, 1) := by decide +kernel
theorem dX10_proof_146 : decode cX10_proof 146 = .ok (.aload_n 0, 1) := by decide +kernel
theorem dX10_proof_147 : decode cX10_proof 147 = .ok (.getfield 280, 3) := by decide +kernel
theorem dX10_proof_150 : decode cX10_proof 150 = .ok (.invokevirtual 217, 3) := by decide +kernel
theorem dX10_proof_153 : decode cX10_proof 153 = .ok (.iconst 3, 1) := by decide +kernel
theorem dX10_proof_154 : decode cX10_proof 154 = .ok (.if_icmp .ne 14, 3) := by decide +kernel
theorem dX10_proof_157 : decode cX10_proof 157 = .ok (.aload_n 0, 1) := by decide +kernel
theorem dX10_proof_158 : decode cX10_proof 158 = .ok (.aload_n 0, 1) := by decide +kernel
theorem dX10_proof_159 : decode cX10_proof 159 = .ok (.getfield 280, 3) := by decide +kernel
theorem dX10_proof_162 : decode cX10_proof 162 = .ok (.invokevirtual 231, 3) := by decide +kernel
theorem dX10_proof_165 : decode cX10_proof 165 = .ok (.goto 11, 3) := by decide +kernel
theorem dX10_proof_168 : decode cX10_proof 168 = .ok (.aload_n 0, 1) := by decide +kernel
theorem dX10_proof_169 : decode cX10_proof 169 = .ok (.aload_n 0, 1) := by decide +kernel
theorem dX10_proof_170 : decode cX10_proof 170 = .ok (.getfield 280, 3) := by decide +kernel
theorem dX10_proof_173 : decode cX10_proof 173 = .ok (.invokevirtual 234, 3) := by decide +kernel
theorem dX10_proof_176 : decode cX10_proof 176 = .ok (.aload_n 0, 1) := by decide +kernel
theorem dX10_proof_177 : decode cX10_proof 177 = .ok (.getfield 283, 3) := by decide +kernel
theorem dX10_proof_180 : decode cX10_proof 180 = .ok (.invokevirtual 317, 3) := by decide +kernel
theorem dX10_proof_183 : decode cX10_proof 183 = .ok (.iinc 4 1, 3) := by decide +kernel
theorem dX10_proof_186 : decode cX10_proof 186 = .ok (.goto (-113), 3) := by decide +kernel
theorem dX10_proof_189 : decode cX10_proof 189 = .ok (.iload_n 3, 1) := by decide +kernel
theorem dX10_proof_190 : decode cX10_proof 190 = .ok (.ireturn, 1) := by decide +kernel
set_option maxHeartbeats 4000000 in
set_option maxRecDepth 100000 in
theorem c_X10_proof {l : Launch} {g : Gh} {w : Wd} {k0 : Nat} {v_location : Int32} {v_o : Int32} {rz : Int32} {wz : Wd} (hF : f_X10_proof w k0 v_location v_o = some (rz, wz)) (hk0 : zct zM k0 = 10) : Met l yX10_proof (Cond.code yX10_proof cX10_proof 6 (some .int) :: TT) (rmd 6) (Pcw zM g w [.ref (g.2.2 k0), .int (v_location), .int (v_o)]) (Qw zM g wz (some (.int (rz)))) 0 0 (zA zM g) := by
  refine mt_start (by decide) (Nat.le_of_ble_eq_true rfl) ?_
  intro p e s m args below meth c H locs ls X hr hl hH
  have hx := X.1
  have hb := X.2.1
  have hml := X.2.2.1
  have hown := X.2.2.2.1
  have ht := X.2.2.2.2.1
  have hl : lv_has ls 6 [(0, .ref (g.2.2 (k0))), (1, .int (v_location)), (2, .int (v_o))] := hl
  unfold f_X10_proof at hF
  refine lv_aload_n hx hb dX10_proof_0 rfl (lv_at hl 0 rfl) ?_
  refine lv_iconst (v := (0 : Int32)) hx hb dX10_proof_1 (by decide) ?_
  obtain ⟨w1, h1, hF⟩ := ob hF
  refine w_puti X hH h1 hk0 fs_10_0 nf_10_0 lk_10_85 dX10_proof_2 (fun H locs hH => ?_)
  refine lv_aload_n hx hb dX10_proof_5 rfl (lv_at hl 0 rfl) ?_
  refine lv_iload_n hx hb dX10_proof_6 rfl (lv_at hl 1 rfl) ?_
  refine lv_iload_n hx hb dX10_proof_7 rfl (lv_at hl 2 rfl) ?_
  obtain ⟨x2, h2, hF⟩ := ob hF
  refine w_callV (As := [.int (v_location), .int (v_o)]) (k := k0) (rest := []) (st1 := [.int (bI (x2))]) X hH (c_X10_areValid (l := l) (g := g) (w := w1) (k0 := k0) (v_location := v_location) (v_o := v_o) h2 hk0) (Or.inl tw_6_200) ms_X10_areValid im_X10_areValid hk0 cn_10 ⟨Nat.le_of_ble_eq_true rfl, Nat.le_of_ble_eq_true rfl⟩ rfl rfl hl.1 (Nat.le_of_ble_eq_true rfl) dX10_proof_8 ⟨Nat.le_refl _, Nat.le_refl _⟩ rfl (fun H locs hH => ?_)
  refine w_b_t (tgt := 16) hx hb dX10_proof_11 (by decide) (fun c3 => ?_) (fun c3 => ?_)
  · replace hF := ifn (fun z => z c3) hF
    refine lv_aload_n hx hb dX10_proof_16 rfl (lv_at hl 0 rfl) ?_
    refine lv_aload_n hx hb dX10_proof_17 rfl (lv_at hl 0 rfl) ?_
    refine lv_iload_n hx hb dX10_proof_18 rfl (lv_at hl 1 rfl) ?_
    obtain ⟨x4, h4, hF⟩ := ob hF
    refine w_callV (As := [.int (v_location)]) (k := k0) (rest := [.ref (g.2.2 (k0))]) (st1 := [.int (x4), .ref (g.2.2 (k0))]) X hH (c_X10_indexOf (l := l) (g := g) (w := w1) (k0 := k0) (v_location := v_location) h4 hk0) (Or.inl tw_6_172) ms_X10_indexOf im_X10_indexOf hk0 cn_10 ⟨Nat.le_of_ble_eq_true rfl, Nat.le_of_ble_eq_true rfl⟩ rfl rfl hl.1 (Nat.le_of_ble_eq_true rfl) dX10_proof_19 ⟨Nat.le_refl _, Nat.le_refl _⟩ rfl (fun H locs hH => ?_)
    refine lv_iload_n hx hb dX10_proof_22 rfl (lv_at hl 2 rfl) ?_
    obtain ⟨x5, h5, hF⟩ := ob hF
    refine w_callV (As := [.int (x4), .int (v_o)]) (k := k0) (rest := []) (st1 := [.int (bI (x5))]) X hH (c_X10_isFact (l := l) (g := g) (w := w1) (k0 := k0) (v_index := x4) (v_o := v_o) h5 hk0) (Or.inl tw_6_204) ms_X10_isFact im_X10_isFact hk0 cn_10 ⟨Nat.le_of_ble_eq_true rfl, Nat.le_of_ble_eq_true rfl⟩ rfl rfl hl.1 (Nat.le_of_ble_eq_true rfl) dX10_proof_23 ⟨Nat.le_refl _, Nat.le_refl _⟩ rfl (fun H locs hH => ?_)
    refine w_b_t (tgt := 31) hx hb dX10_proof_26 (by decide) (fun c6 => ?_) (fun c6 => ?_)
    · replace hF := ifn (fun z => z c6) hF
      refine lv_iconst (v := (0 : Int32)) hx hb dX10_proof_31 (by decide) ?_
      refine lv_istore_n (lv' := [(3, .int ((0 : Int32))), (0, .ref (g.2.2 (k0))), (1, .int (v_location)), (2, .int (v_o))]) hx hb dX10_proof_32 rfl hl (by decide) rfl (fun ls hl => ?_)
      obtain ⟨r8, hLr8, hF⟩ := ob hF
      have Jr8 : ∀ (H : Heap) (locs : List Loc) (ls : Array Slot), HW zM g r8 s.heap H locs → lv_has ls 6 [(0, .ref (g.2.2 (k0))), (1, .int (v_location)), (2, .int (v_o))] → W p l e (rmd 6) s m args below meth c H locs 0 0 (MQ below (Qw zM g wz (some (.int (rz)))) args s 0 0 (zA zM g)) (F0 m 53 ls []) := by
        intro H locs ls hH hl
        refine lv_aload_n hx hb dX10_proof_53 rfl (lv_at hl 0 rfl) ?_
        refine lv_iconst (v := (0 : Int32)) hx hb dX10_proof_54 (by decide) ?_
        obtain ⟨w11, h11, hF⟩ := ob hF
        refine w_puti X hH h11 hk0 fs_10_35 nf_10_35 lk_10_314 dX10_proof_55 (fun H locs hH => ?_)
        refine lv_aload_n hx hb dX10_proof_58 rfl (lv_at hl 0 rfl) ?_
        refine lv_aload_n hx hb dX10_proof_59 rfl (lv_at hl 0 rfl) ?_
        refine lv_iload_n hx hb dX10_proof_60 rfl (lv_at hl 1 rfl) ?_
        obtain ⟨x12, h12, hF⟩ := ob hF
        refine w_callV (As := [.int (v_location)]) (k := k0) (rest := [.ref (g.2.2 (k0))]) (st1 := [.int (x12), .ref (g.2.2 (k0))]) X hH (c_X10_indexOf (l := l) (g := g) (w := w11) (k0 := k0) (v_location := v_location) h12 hk0) (Or.inl tw_6_172) ms_X10_indexOf im_X10_indexOf hk0 cn_10 ⟨Nat.le_of_ble_eq_true rfl, Nat.le_of_ble_eq_true rfl⟩ rfl rfl hl.1 (Nat.le_of_ble_eq_true rfl) dX10_proof_61 ⟨Nat.le_refl _, Nat.le_refl _⟩ rfl (fun H locs hH => ?_)
        refine lv_iload_n hx hb dX10_proof_64 rfl (lv_at hl 2 rfl) ?_
        obtain ⟨w13, h13, hF⟩ := ob hF
        refine w_callV (As := [.int (x12), .int (v_o)]) (k := k0) (rest := []) (st1 := []) X hH (c_X10_require (l := l) (g := g) (w := w11) (k0 := k0) (v_index := x12) (v_o := v_o) h13 hk0) (Or.inl tw_7_19) ms_X10_require im_X10_require hk0 cn_10 ⟨Nat.le_of_ble_eq_true rfl, Nat.le_of_ble_eq_true rfl⟩ rfl rfl hl.1 (Nat.le_of_ble_eq_true rfl) dX10_proof_65 ⟨Nat.le_refl _, Nat.le_refl _⟩ rfl (fun H locs hH => ?_)
        refine lv_iconst (v := (0 : Int32)) hx hb dX10_proof_68 (by decide) ?_
        refine lv_istore_n (lv' := [(3, .int ((0 : Int32))), (0, .ref (g.2.2 (k0))), (1, .int (v_location)), (2, .int (v_o))]) hx hb dX10_proof_69 rfl hl (by decide) rfl (fun ls hl => ?_)
        refine lv_iconst (v := (0 : Int32)) hx hb dX10_proof_70 (by decide) ?_
        refine lv_istore (lv' := [(4, .int ((0 : Int32))), (3, .int ((0 : Int32))), (0, .ref (g.2.2 (k0))), (1, .int (v_location)), (2, .int (v_o))]) hx hb dX10_proof_71 hl (by decide) rfl (fun ls hl => ?_)
        obtain ⟨r15, hLr15, hF⟩ := ob hF
        have Jr15 : ∀ (H : Heap) (locs : List Loc) (ls : Array Slot), HW zM g r15.2 s.heap H locs → lv_has ls 6 [(0, .ref (g.2.2 (k0))), (1, .int (v_location)), (2, .int (v_o)), (3, .int (r15.1))] → W p l e (rmd 6) s m args below meth c H locs 0 0 (MQ below (Qw zM g wz (some (.int (rz)))) args s 0 0 (zA zM g)) (F0 m 189 ls []) := by
          intro H locs ls hH hl
          refine lv_iload_n hx hb dX10_proof_189 rfl (lv_at hl 3 rfl) ?_
          obtain ⟨rfl, rfl⟩ := se2 hF
          exact w_iret X hH hr dX10_proof_190
        have Lr15 : ∀ (n : Nat) (s14 : Int32 × Int32 × Wd), lp (b_X10_proof_2 k0) n s14 = some r15 → ∀ (H : Heap) (locs : List Loc) (ls : Array Slot), HW zM g s14.2.2 s.heap H locs → lv_has ls 6 [(0, .ref (g.2.2 (k0))), (1, .int (v_location)), (2, .int (v_o)), (3, .int (s14.1)), (4, .int (s14.2.1))] → W p l e (rmd 6) s m args below meth c H locs 0 0 (MQ below (Qw zM g wz (some (.int (rz)))) args s 0 0 (zA zM g)) (F0 m 73 ls []) := by
          intro n
          induction n with
          | zero => intro s14 hL; exact lp_0 hL
          | succ n ih =>
            intro s14 hL H locs ls hH hl
            obtain ⟨bb, hF, hL⟩ := lp_s hL
            unfold b_X10_proof_2 at hF
            refine lv_iload hx hb dX10_proof_73 (lv_at hl 4 rfl) ?_
            refine lv_aload_n hx hb dX10_proof_75 rfl (lv_at hl 0 rfl) ?_
            refine w_geti X hH hk0 fs_10_35 lk_10_314 dX10_proof_76 ?_
            refine w_ilt_f (tgt := 189) hx hb dX10_proof_79 (by decide) (fun c16 => ?_) (fun c16 => ?_)
            · replace hF := ifn c16 hF
              obtain rfl := se1 hF
              subst hL
              exact Jr15 _ _ _ hH (lv_sub hl [0, 1, 2, 3] rfl)
            · replace hF := ifp c16 hF
              refine lv_aload_n hx hb dX10_proof_82 rfl (lv_at hl 0 rfl) ?_
              refine w_getr X hH hk0 fs_10_33 lk_10_64 dX10_proof_83 ?_
              refine lv_iload hx hb dX10_proof_86 (lv_at hl 4 rfl) ?_
              obtain ⟨x17, h17, hF⟩ := ob hF
              refine w_iald X hH h17 (rt_M_10_33 hk0) dX10_proof_88 ?_
              refine lv_bipush (v := (10 : Int32)) hx hb dX10_proof_89 (by decide) ?_
              refine w_irem hx hb dX10_proof_91 (by decide) ?_
              refine lv_istore (lv' := [(5, .int ((jrem (x17) ((10 : Int32))))), (0, .ref (g.2.2 (k0))), (1, .int (v_location)), (2, .int (v_o)), (3, .int (s14.1)), (4, .int (s14.2.1))]) hx hb dX10_proof_92 hl (by decide) rfl (fun ls hl => ?_)
              refine lv_aload_n hx hb dX10_proof_94 rfl (lv_at hl 1 rfl) ?_
              refine lv_aload_n hx hb dX10_proof_95 rfl (lv_at hl 1 rfl) ?_
              refine w_getr X hH hk0 fs_10_33 lk_10_64 dX10_proof_96 ?_
              refine lv_iload hx hb dX10_proof_99 (lv_at hl 5 rfl) ?_
              obtain ⟨x18, h18, hF⟩ := ob hF
              refine w_iald X hH h18 (rt_M_10_33 hk0) dX10_proof_101 ?_
              refine lv_bipush (v := (10 : Int32)) hx hb dX10_proof_102 (by decide) ?_
              refine w_idiv hx hb dX10_proof_104 (by decide) ?_
              refine lv_iload hx hb dX10_proof_105 (lv_at hl 0 rfl) ?_
              refine lv_iconst (v := bI true) hx hb dX10_proof_107 (by decide) ?_
              obtain ⟨w19, h19, hF⟩ := ob hF
              refine w_callV (As := [.int ((jdiv (x18) ((10 : Int32)))), .int ((jrem (x17) ((10 : Int32)))), .int (bI (true))]) (k := k0) (rest := []) (st1 := []) X hH (c_X10_derive (l := l) (g := g) (w := s14.2.2) (k0 := k0) (v_index := (jdiv (x18) ((10 : Int32)))) (v_o := (jrem (x17) ((10 : Int32)))) (v_primary := true) h19 hk0) (Or.inl tw_6_212) ms_X10_derive im_X10_derive hk0 cn_10 ⟨Nat.le_of_ble_eq_true rfl, Nat.le_of_ble_eq_true rfl⟩ rfl rfl hl.1 (Nat.le_of_ble_eq_true rfl) dX10_proof_108 ⟨Nat.le_refl _, Nat.le_refl _⟩ rfl (fun H locs hH => ?_)
              refine lv_iload_n hx hb dX10_proof_111 rfl (lv_at hl 4 rfl) ?_
              refine lv_iconst (v := (1 : Int32)) hx hb dX10_proof_112 (by decide) ?_
              refine lv_aload_n hx hb dX10_proof_113 rfl (lv_at hl 1 rfl) ?_
              refine w_geti X hH hk0 fs_10_28 lk_10_280 dX10_proof_114 ?_
              refine w_ishl hx hb dX10_proof_117 ?_
              refine lv_ior hx hb dX10_proof_118 ?_
              refine lv_istore_n (lv' := [(3, .int ((s14.1 ||| (jshl ((1 : Int32)) ((w19.1 (k0) 28)))))), (5, .int ((jrem (x17) ((10 : Int32))))), (0, .ref (g.2.2 (k0))), (1, .int (v_location)), (2, .int (v_o)), (4, .int (s14.2.1))]) hx hb dX10_proof_119 rfl hl (by decide) rfl (fun ls hl => ?_)
              obtain ⟨s20, hs20, hF⟩ := ob hF
              have Js20 : ∀ (H : Heap) (locs : List Loc) (ls : Array Slot), HW zM g s20 s.heap H locs → lv_has ls 6 [(0, .ref (g.2.2 (k0))), (1, .int (v_location)), (2, .int (v_o)), (3, .int ((s14.1 ||| (jshl ((1 : Int32)) ((w19.1 (k0) 28)))))), (4, .int (s14.2.1)), (5, .int ((jrem (x17) ((10 : Int32)))))] → W p l e (rmd 6) s m args below meth c H locs 0 0 (MQ below (Qw zM g wz (some (.int (rz)))) args s 0 0 (zA zM g)) (F0 m 137 ls []) := by
                intro H locs ls hH hl
                obtain ⟨s23, hs23, hF⟩ := ob hF
                have Js23 : ∀ (H : Heap) (locs : List Loc) (ls : Array Slot), HW zM g s23 s.heap H locs → lv_has ls 6 [(0, .ref (g.2.2 (k0))), (1, .int (v_location)), (2, .int (v_o)), (3, .int ((s14.1 ||| (jshl ((1 : Int32)) ((w19.1 (k0) 28)))))), (4, .int (s14.2.1)), (5, .int ((jrem (x17) ((10 : Int32)))))] → W p l e (rmd 6) s m args below meth c H locs 0 0 (MQ below (Qw zM g wz (some (.int (rz)))) args s 0 0 (zA zM g)) (F0 m 183 ls []) := by
                  intro H locs ls hH hl
                  refine lv_iinc (v := (s14.2.1 + (1 : Int32))) (lv' := [(4, .int ((s14.2.1 + (1 : Int32)))), (0, .ref (g.2.2 (k0))), (1, .int (v_location)), (2, .int (v_o)), (3, .int ((s14.1 ||| (jshl ((1 : Int32)) ((w19.1 (k0) 28)))))), (5, .int ((jrem (x17) ((10 : Int32)))))]) hx hb dX10_proof_183 hl (k := 4) rfl rfl (by decide) rfl (fun ls hl => ?_)
                  refine lv_goto (tgt := 73) hx hb dX10_proof_186 (by decide) ?_
                  obtain rfl := se1 hF
                  exact ih _ hL _ _ _ hH (lv_sub hl [1, 2, 3, 4, 0] rfl)
                have hF := hs23
                refine lv_aload_n hx hb dX10_proof_137 rfl (lv_at hl 0 rfl) ?_
                refine w_geti X hH hk0 fs_10_29 lk_10_283 dX10_proof_138 ?_
                refine w_zge_f (tgt := 183) hx hb dX10_proof_141 (by decide) (fun c24 => ?_) (fun c24 => ?_)
                · replace hF := ifn c24 hF
                  obtain rfl := se1 hF
                  exact Js23 _ _ _ hH (lv_sub hl [0, 1, 2, 3, 4, 5] rfl)
                · replace hF := ifp c24 hF
                  refine lv_aload_n hx hb dX10_proof_144 rfl (lv_at hl 0 rfl) ?_
                  obtain ⟨x26, hx26, hF⟩ := ob hF
                  have J25 : ∀ (H : Heap) (locs : List Loc), HW zM g s20 s.heap H locs → W p l e (rmd 6) s m args below meth c H locs 0 0 (MQ below (Qw zM g wz (some (.int (rz)))) args s 0 0 (zA zM g)) (F0 m 176 ls [.int (x26), .ref (g.2.2 (k0))]) := by
                    intro H locs hH
                    refine lv_aload_n hx hb dX10_proof_176 rfl (lv_at hl 0 rfl) ?_
                    refine w_geti X hH hk0 fs_10_29 lk_10_283 dX10_proof_177 ?_
                    obtain ⟨w31, h31, hF⟩ := ob hF
                    refine w_callV (As := [.int (x26), .int ((s20.1 (k0) 29))]) (k := k0) (rest := []) (st1 := []) X hH (c_X10_require (l := l) (g := g) (w := s20) (k0 := k0) (v_index := x26) (v_o := (s20.1 (k0) 29)) h31 hk0) (Or.inl tw_7_19) ms_X10_require im_X10_require hk0 cn_10 ⟨Nat.le_of_ble_eq_true rfl, Nat.le_of_ble_eq_true rfl⟩ rfl rfl hl.1 (Nat.le_of_ble_eq_true rfl) dX10_proof_180 ⟨Nat.le_refl _, Nat.le_refl _⟩ rfl (fun H locs hH => ?_)
                    obtain rfl := se1 hF
                    exact Js23 _ _ _ hH (lv_sub hl [0, 1, 2, 3, 4, 5] rfl)
                  have hF := hx26
                  refine lv_aload_n hx hb dX10_proof_145 rfl (lv_at hl 0 rfl) ?_
                  refine lv_aload_n hx hb dX10_proof_146 rfl (lv_at hl 0 rfl) ?_
                  refine w_geti X hH hk0 fs_10_28 lk_10_280 dX10_proof_147 ?_
                  obtain ⟨x27, h27, hF⟩ := ob hF
                  refine w_callV (As := [.int ((s20.1 (k0) 28))]) (k := k0) (rest := [.ref (g.2.2 (k0))]) (st1 := [.int (x27), .ref (g.2.2 (k0))]) X hH (c_X10_kind (l := l) (g := g) (w := s20) (k0 := k0) (v_c := (s20.1 (k0) 28)) h27 hk0) (Or.inl tw_5_48) ms_X10_kind im_X10_kind hk0 cn_10 ⟨Nat.le_of_ble_eq_true rfl, Nat.le_of_ble_eq_true rfl⟩ rfl rfl hl.1 (Nat.le_of_ble_eq_true rfl) dX10_proof_150 ⟨Nat.le_refl _, Nat.le_refl _⟩ rfl (fun H locs hH => ?_)
                  refine lv_iconst (v := (3 : Int32)) hx hb dX10_proof_153 (by decide) ?_
                  refine w_ieq_f (tgt := 168) hx hb dX10_proof_154 (by decide) (fun c28 => ?_) (fun c28 => ?_)
                  · replace hF := ifn c28 hF
                    refine lv_aload_n hx hb dX10_proof_168 rfl (lv_at hl 0 rfl) ?_
                    refine lv_aload_n hx hb dX10_proof_169 rfl (lv_at hl 0 rfl) ?_
                    refine w_geti X hH hk0 fs_10_28 lk_10_280 dX10_proof_170 ?_
                    obtain ⟨x29, h29, hF⟩ := ob hF
                    refine w_callV (As := [.int ((s20.1 (k0) 28))]) (k := k0) (rest := [.ref (g.2.2 (k0))]) (st1 := [.int (x29), .ref (g.2.2 (k0))]) X hH (c_X10_second (l := l) (g := g) (w := s20) (k0 := k0) (v_c := (s20.1 (k0) 28)) h29 hk0) (Or.inl tw_5_56) ms_X10_second im_X10_second hk0 cn_10 ⟨Nat.le_of_ble_eq_true rfl, Nat.le_of_ble_eq_true rfl⟩ rfl rfl hl.1 (Nat.le_of_ble_eq_true rfl) dX10_proof_173 ⟨Nat.le_refl _, Nat.le_refl _⟩ rfl (fun H locs hH => ?_)
                    obtain rfl := se1 hF
                    exact J25 _ _ hH
                  · replace hF := ifp c28 hF
                    refine lv_aload_n hx hb dX10_proof_157 rfl (lv_at hl 0 rfl) ?_
                    refine lv_aload_n hx hb dX10_proof_158 rfl (lv_at hl 0 rfl) ?_
                    refine w_geti X hH hk0 fs_10_28 lk_10_280 dX10_proof_159 ?_
                    obtain ⟨x30, h30, hF⟩ := ob hF
                    refine w_callV (As := [.int ((s20.1 (k0) 28))]) (k := k0) (rest := [.ref (g.2.2 (k0))]) (st1 := [.int (x30), .ref (g.2.2 (k0))]) X hH (c_X10_first (l := l) (g := g) (w := s20) (k0 := k0) (v_c := (s20.1 (k0) 28)) h30 hk0) (Or.inl tw_5_52) ms_X10_first im_X10_first hk0 cn_10 ⟨Nat.le_of_ble_eq_true rfl, Nat.le_of_ble_eq_true rfl⟩ rfl rfl hl.1 (Nat.le_of_ble_eq_true rfl) dX10_proof_162 ⟨Nat.le_refl _, Nat.le_refl _⟩ rfl (fun H locs hH => ?_)
                    refine lv_goto (tgt := 176) hx hb dX10_proof_165 (by decide) ?_
                    obtain rfl := se1 hF
                    exact J25 _ _ hH
              have hF := hs20
              refine lv_aload_n hx hb dX10_proof_120 rfl (lv_at hl 2 rfl) ?_
              refine w_geti X hH hk0 fs_10_30 lk_10_286 dX10_proof_121 ?_
              refine w_zge_f (tgt := 137) hx hb dX10_proof_124 (by decide) (fun c21 => ?_) (fun c21 => ?_)
              · replace hF := ifn c21 hF
                obtain rfl := se1 hF
                exact Js20 _ _ _ hH (lv_sub hl [2, 3, 4, 0, 5, 1] rfl)
              · replace hF := ifp c21 hF
                refine lv_aload_n hx hb dX10_proof_127 rfl (lv_at hl 2 rfl) ?_
                refine lv_aload_n hx hb dX10_proof_128 rfl (lv_at hl 2 rfl) ?_
                refine w_geti X hH hk0 fs_10_30 lk_10_286 dX10_proof_129 ?_
                refine lv_iload hx hb dX10_proof_132 (lv_at hl 1 rfl) ?_
                obtain ⟨w22, h22, hF⟩ := ob hF
                refine w_callV (As := [.int ((w19.1 (k0) 30)), .int ((jrem (x17) ((10 : Int32))))]) (k := k0) (rest := []) (st1 := []) X hH (c_X10_require (l := l) (g := g) (w := w19) (k0 := k0) (v_index := (w19.1 (k0) 30)) (v_o := (jrem (x17) ((10 : Int32)))) h22 hk0) (Or.inl tw_7_19) ms_X10_require im_X10_require hk0 cn_10 ⟨Nat.le_of_ble_eq_true rfl, Nat.le_of_ble_eq_true rfl⟩ rfl rfl hl.1 (Nat.le_of_ble_eq_true rfl) dX10_proof_134 ⟨Nat.le_refl _, Nat.le_refl _⟩ rfl (fun H locs hH => ?_)
                obtain rfl := se1 hF
                exact Js20 _ _ _ hH (lv_sub hl [2, 3, 4, 0, 5, 1] rfl)
        exact Lr15 NF _ hLr15 _ _ _ hH (lv_sub hl [2, 3, 4, 1, 0] rfl)
      have Lr8 : ∀ (n : Nat) (s7 : Int32 × Wd), lp (b_X10_proof_1 k0) n s7 = some r8 → ∀ (H : Heap) (locs : List Loc) (ls : Array Slot), HW zM g s7.2 s.heap H locs → lv_has ls 6 [(0, .ref (g.2.2 (k0))), (1, .int (v_location)), (2, .int (v_o)), (3, .int (s7.1))] → W p l e (rmd 6) s m args below meth c H locs 0 0 (MQ below (Qw zM g wz (some (.int (rz)))) args s 0 0 (zA zM g)) (F0 m 33 ls []) := by
        intro n
        induction n with
        | zero => intro s7 hL; exact lp_0 hL
        | succ n ih =>
          intro s7 hL H locs ls hH hl
          obtain ⟨bb, hF, hL⟩ := lp_s hL
          unfold b_X10_proof_1 at hF
          refine lv_iload_n hx hb dX10_proof_33 rfl (lv_at hl 3 rfl) ?_
          refine lv_sipush (v := (560 : Int32)) hx hb dX10_proof_34 (by decide) ?_
          refine w_ilt_f (tgt := 53) hx hb dX10_proof_37 (by decide) (fun c9 => ?_) (fun c9 => ?_)
          · replace hF := ifn c9 hF
            obtain rfl := se1 hF
            subst hL
            exact Jr8 _ _ _ hH (lv_sub hl [0, 1, 2] rfl)
          · replace hF := ifp c9 hF
            refine lv_aload_n hx hb dX10_proof_40 rfl (lv_at hl 0 rfl) ?_
            refine w_getr X hH hk0 fs_10_34 lk_10_67 dX10_proof_41 ?_
            refine lv_iload_n hx hb dX10_proof_44 rfl (lv_at hl 3 rfl) ?_
            refine lv_iconst (v := bI false) hx hb dX10_proof_45 (by decide) ?_
            obtain ⟨w10, h10, hF⟩ := ob hF
            refine w_zast X hH h10 (rt_M_10_34 hk0) dX10_proof_46 (fun H locs hH => ?_)
            refine lv_iinc (v := (s7.1 + (1 : Int32))) (lv' := [(3, .int ((s7.1 + (1 : Int32)))), (0, .ref (g.2.2 (k0))), (1, .int (v_location)), (2, .int (v_o))]) hx hb dX10_proof_47 hl (k := 3) rfl rfl (by decide) rfl (fun ls hl => ?_)
            refine lv_goto (tgt := 33) hx hb dX10_proof_50 (by decide) ?_
            obtain rfl := se1 hF
            exact ih _ hL _ _ _ hH (lv_sub hl [1, 2, 3, 0] rfl)
      exact Lr8 NF _ hLr8 _ _ _ hH (lv_sub hl [1, 2, 3, 0] rfl)
    · replace hF := ifp c6 hF
      refine lv_iconst (v := (0 : Int32)) hx hb dX10_proof_29 (by decide) ?_
      obtain ⟨rfl, rfl⟩ := se2 hF
      exact w_iret X hH hr dX10_proof_30
  · replace hF := ifp c3 hF
    refine lv_iconst (v := (-1 : Int32)) hx hb dX10_proof_14 (by decide) ?_
    obtain ⟨rfl, rfl⟩ := se2 hF
    exact w_iret X hH hr dX10_proof_15

theorem dX10_solveWith_0 : decode cX10_solveWith 0 = .ok (.aload_n 0, 1) := by decide +kernel
theorem dX10_solveWith_1 : decode cX10_solveWith 1 = .ok (.aload_n 0, 1) := by decide +kernel
theorem dX10_solveWith_2 : decode cX10_solveWith 2 = .ok (.getfield 39, 3) := by decide +kernel
theorem dX10_solveWith_5 : decode cX10_solveWith 5 = .ok (.iconst 1, 1) := by decide +kernel
theorem dX10_solveWith_6 : decode cX10_solveWith 6 = .ok (.iaload, 1) := by decide +kernel
theorem dX10_solveWith_7 : decode cX10_solveWith 7 = .ok (.putfield 320, 3) := by decide +kernel
theorem dX10_solveWith_10 : decode cX10_solveWith 10 = .ok (.aload_n 0, 1) := by decide +kernel
theorem dX10_solveWith_11 : decode cX10_solveWith 11 = .ok (.getfield 39, 3) := by decide +kernel
theorem dX10_solveWith_14 : decode cX10_solveWith 14 = .ok (.iconst 1, 1) := by decide +kernel
theorem dX10_solveWith_15 : decode cX10_solveWith 15 = .ok (.iload_n 1, 1) := by decide +kernel
theorem dX10_solveWith_16 : decode cX10_solveWith 16 = .ok (.iastore, 1) := by decide +kernel
theorem dX10_solveWith_17 : decode cX10_solveWith 17 = .ok (.aload_n 0, 1) := by decide +kernel
theorem dX10_solveWith_18 : decode cX10_solveWith 18 = .ok (.invokevirtual 82, 3) := by decide +kernel
theorem dX10_solveWith_21 : decode cX10_solveWith 21 = .ok (.return_, 1) := by decide +kernel
set_option maxHeartbeats 4000000 in
set_option maxRecDepth 100000 in
theorem c_X10_solveWith {l : Launch} {g : Gh} {w : Wd} {k0 : Nat} {v_enabled : Int32} {wz : Wd} (hF : f_X10_solveWith w k0 v_enabled = some wz) (hk0 : zct zM k0 = 10) : Met l yX10_solveWith (Cond.code yX10_solveWith cX10_solveWith 2 none :: TT) (rmd 3) (Pcw zM g w [.ref (g.2.2 k0), .int (v_enabled)]) (Qw zM g wz none) 0 0 (zA zM g) := by
  refine mt_start (by decide) (Nat.le_of_ble_eq_true rfl) ?_
  intro p e s m args below meth c H locs ls X hr hl hH
  have hx := X.1
  have hb := X.2.1
  have hml := X.2.2.1
  have hown := X.2.2.2.1
  have ht := X.2.2.2.2.1
  have hl : lv_has ls 2 [(0, .ref (g.2.2 (k0))), (1, .int (v_enabled))] := hl
  unfold f_X10_solveWith at hF
  refine lv_aload_n hx hb dX10_solveWith_0 rfl (lv_at hl 0 rfl) ?_
  refine lv_aload_n hx hb dX10_solveWith_1 rfl (lv_at hl 0 rfl) ?_
  refine w_getr X hH hk0 fs_10_18 lk_10_39 dX10_solveWith_2 ?_
  refine lv_iconst (v := (1 : Int32)) hx hb dX10_solveWith_5 (by decide) ?_
  obtain ⟨x1, h1, hF⟩ := ob hF
  refine w_iald X hH h1 (rt_M_10_18 hk0) dX10_solveWith_6 ?_
  obtain ⟨w2, h2, hF⟩ := ob hF
  refine w_puti X hH h2 hk0 fs_10_36 nf_10_36 lk_10_320 dX10_solveWith_7 (fun H locs hH => ?_)
  refine lv_aload_n hx hb dX10_solveWith_10 rfl (lv_at hl 0 rfl) ?_
  refine w_getr X hH hk0 fs_10_18 lk_10_39 dX10_solveWith_11 ?_
  refine lv_iconst (v := (1 : Int32)) hx hb dX10_solveWith_14 (by decide) ?_
  refine lv_iload_n hx hb dX10_solveWith_15 rfl (lv_at hl 1 rfl) ?_
  obtain ⟨w3, h3, hF⟩ := ob hF
  refine w_iast X hH h3 (rt_M_10_18 hk0) dX10_solveWith_16 (fun H locs hH => ?_)
  refine lv_aload_n hx hb dX10_solveWith_17 rfl (lv_at hl 0 rfl) ?_
  obtain ⟨w4, h4, hF⟩ := ob hF
  refine w_callV (As := []) (k := k0) (rest := []) (st1 := []) X hH (c_X10_solve (l := l) (g := g) (w := w3) (k0 := k0) h4 hk0) (Or.inl tw_5_33) ms_X10_solve im_X10_solve hk0 cn_10 ⟨Nat.le_of_ble_eq_true rfl, Nat.le_of_ble_eq_true rfl⟩ rfl rfl hl.1 (Nat.le_of_ble_eq_true rfl) dX10_solveWith_18 ⟨Nat.le_refl _, Nat.le_refl _⟩ rfl (fun H locs hH => ?_)
  obtain rfl := se1 hF
  exact w_vret X hH hr dX10_solveWith_21

theorem dX10_solveAgain_0 : decode cX10_solveAgain 0 = .ok (.aload_n 0, 1) := by decide +kernel
theorem dX10_solveAgain_1 : decode cX10_solveAgain 1 = .ok (.getfield 39, 3) := by decide +kernel
theorem dX10_solveAgain_4 : decode cX10_solveAgain 4 = .ok (.iconst 1, 1) := by decide +kernel
theorem dX10_solveAgain_5 : decode cX10_solveAgain 5 = .ok (.aload_n 0, 1) := by decide +kernel
theorem dX10_solveAgain_6 : decode cX10_solveAgain 6 = .ok (.getfield 320, 3) := by decide +kernel
theorem dX10_solveAgain_9 : decode cX10_solveAgain 9 = .ok (.iastore, 1) := by decide +kernel
theorem dX10_solveAgain_10 : decode cX10_solveAgain 10 = .ok (.aload_n 0, 1) := by decide +kernel
theorem dX10_solveAgain_11 : decode cX10_solveAgain 11 = .ok (.invokevirtual 82, 3) := by decide +kernel
theorem dX10_solveAgain_14 : decode cX10_solveAgain 14 = .ok (.return_, 1) := by decide +kernel
set_option maxHeartbeats 4000000 in
set_option maxRecDepth 100000 in
theorem c_X10_solveAgain {l : Launch} {g : Gh} {w : Wd} {k0 : Nat} {wz : Wd} (hF : f_X10_solveAgain w k0 = some wz) (hk0 : zct zM k0 = 10) : Met l yX10_solveAgain (Cond.code yX10_solveAgain cX10_solveAgain 1 none :: TT) (rmd 3) (Pcw zM g w [.ref (g.2.2 k0)]) (Qw zM g wz none) 0 0 (zA zM g) := by
  refine mt_start (by decide) (Nat.le_of_ble_eq_true rfl) ?_
  intro p e s m args below meth c H locs ls X hr hl hH
  have hx := X.1
  have hb := X.2.1
  have hml := X.2.2.1
  have hown := X.2.2.2.1
  have ht := X.2.2.2.2.1
  have hl : lv_has ls 1 [(0, .ref (g.2.2 (k0)))] := hl
  unfold f_X10_solveAgain at hF
  refine lv_aload_n hx hb dX10_solveAgain_0 rfl (lv_at hl 0 rfl) ?_
  refine w_getr X hH hk0 fs_10_18 lk_10_39 dX10_solveAgain_1 ?_
  refine lv_iconst (v := (1 : Int32)) hx hb dX10_solveAgain_4 (by decide) ?_
  refine lv_aload_n hx hb dX10_solveAgain_5 rfl (lv_at hl 0 rfl) ?_
  refine w_geti X hH hk0 fs_10_36 lk_10_320 dX10_solveAgain_6 ?_
  obtain ⟨w1, h1, hF⟩ := ob hF
  refine w_iast X hH h1 (rt_M_10_18 hk0) dX10_solveAgain_9 (fun H locs hH => ?_)
  refine lv_aload_n hx hb dX10_solveAgain_10 rfl (lv_at hl 0 rfl) ?_
  obtain ⟨w2, h2, hF⟩ := ob hF
  refine w_callV (As := []) (k := k0) (rest := []) (st1 := []) X hH (c_X10_solve (l := l) (g := g) (w := w1) (k0 := k0) h2 hk0) (Or.inl tw_5_33) ms_X10_solve im_X10_solve hk0 cn_10 ⟨Nat.le_of_ble_eq_true rfl, Nat.le_of_ble_eq_true rfl⟩ rfl rfl hl.1 (Nat.le_of_ble_eq_true rfl) dX10_solveAgain_11 ⟨Nat.le_refl _, Nat.le_refl _⟩ rfl (fun H locs hH => ?_)
  obtain rfl := se1 hF
  exact w_vret X hH hr dX10_solveAgain_14

theorem dX10_factsWith_0 : decode cX10_factsWith 0 = .ok (.aload_n 0, 1) := by decide +kernel
theorem dX10_factsWith_1 : decode cX10_factsWith 1 = .ok (.iload_n 1, 1) := by decide +kernel
theorem dX10_factsWith_2 : decode cX10_factsWith 2 = .ok (.invokevirtual 323, 3) := by decide +kernel
theorem dX10_factsWith_5 : decode cX10_factsWith 5 = .ok (.aload_n 0, 1) := by decide +kernel
theorem dX10_factsWith_6 : decode cX10_factsWith 6 = .ok (.invokevirtual 260, 3) := by decide +kernel
theorem dX10_factsWith_9 : decode cX10_factsWith 9 = .ok (.istore_n 2, 1) := by decide +kernel
theorem dX10_factsWith_10 : decode cX10_factsWith 10 = .ok (.aload_n 0, 1) := by decide +kernel
theorem dX10_factsWith_11 : decode cX10_factsWith 11 = .ok (.invokevirtual 326, 3) := by decide +kernel
theorem dX10_factsWith_14 : decode cX10_factsWith 14 = .ok (.iload_n 2, 1) := by decide +kernel
theorem dX10_factsWith_15 : decode cX10_factsWith 15 = .ok (.ireturn, 1) := by decide +kernel
set_option maxHeartbeats 4000000 in
set_option maxRecDepth 100000 in
theorem c_X10_factsWith {l : Launch} {g : Gh} {w : Wd} {k0 : Nat} {v_enabled : Int32} {rz : Int32} {wz : Wd} (hF : f_X10_factsWith w k0 v_enabled = some (rz, wz)) (hk0 : zct zM k0 = 10) : Met l yX10_factsWith (Cond.code yX10_factsWith cX10_factsWith 3 (some .int) :: TT) (rmd 4) (Pcw zM g w [.ref (g.2.2 k0), .int (v_enabled)]) (Qw zM g wz (some (.int (rz)))) 0 0 (zA zM g) := by
  refine mt_start (by decide) (Nat.le_of_ble_eq_true rfl) ?_
  intro p e s m args below meth c H locs ls X hr hl hH
  have hx := X.1
  have hb := X.2.1
  have hml := X.2.2.1
  have hown := X.2.2.2.1
  have ht := X.2.2.2.2.1
  have hl : lv_has ls 3 [(0, .ref (g.2.2 (k0))), (1, .int (v_enabled))] := hl
  unfold f_X10_factsWith at hF
  refine lv_aload_n hx hb dX10_factsWith_0 rfl (lv_at hl 0 rfl) ?_
  refine lv_iload_n hx hb dX10_factsWith_1 rfl (lv_at hl 1 rfl) ?_
  obtain ⟨w1, h1, hF⟩ := ob hF
  refine w_callV (As := [.int (v_enabled)]) (k := k0) (rest := []) (st1 := []) X hH (c_X10_solveWith (l := l) (g := g) (w := w) (k0 := k0) (v_enabled := v_enabled) h1 hk0) (Or.inl tw_7_27) ms_X10_solveWith im_X10_solveWith hk0 cn_10 ⟨Nat.le_of_ble_eq_true rfl, Nat.le_of_ble_eq_true rfl⟩ rfl rfl hl.1 (Nat.le_of_ble_eq_true rfl) dX10_factsWith_2 ⟨Nat.le_refl _, Nat.le_refl _⟩ rfl (fun H locs hH => ?_)
  refine lv_aload_n hx hb dX10_factsWith_5 rfl (lv_at hl 0 rfl) ?_
  obtain ⟨x2, h2, hF⟩ := ob hF
  refine w_callV (As := []) (k := k0) (rest := []) (st1 := [.int (x2)]) X hH (c_X10_facts (l := l) (g := g) (w := w1) (k0 := k0) h2 hk0) (Or.inl tw_6_157) ms_X10_facts im_X10_facts hk0 cn_10 ⟨Nat.le_of_ble_eq_true rfl, Nat.le_of_ble_eq_true rfl⟩ rfl rfl hl.1 (Nat.le_of_ble_eq_true rfl) dX10_factsWith_6 ⟨Nat.le_refl _, Nat.le_refl _⟩ rfl (fun H locs hH => ?_)
  refine lv_istore_n (lv' := [(2, .int (x2)), (0, .ref (g.2.2 (k0))), (1, .int (v_enabled))]) hx hb dX10_factsWith_9 rfl hl (by decide) rfl (fun ls hl => ?_)
  refine lv_aload_n hx hb dX10_factsWith_10 rfl (lv_at hl 1 rfl) ?_
  obtain ⟨w3, h3, hF⟩ := ob hF
  refine w_callV (As := []) (k := k0) (rest := []) (st1 := []) X hH (c_X10_solveAgain (l := l) (g := g) (w := w1) (k0 := k0) h3 hk0) (Or.inl tw_7_31) ms_X10_solveAgain im_X10_solveAgain hk0 cn_10 ⟨Nat.le_of_ble_eq_true rfl, Nat.le_of_ble_eq_true rfl⟩ rfl rfl hl.1 (Nat.le_of_ble_eq_true rfl) dX10_factsWith_11 ⟨Nat.le_refl _, Nat.le_refl _⟩ rfl (fun H locs hH => ?_)
  refine lv_iload_n hx hb dX10_factsWith_14 rfl (lv_at hl 0 rfl) ?_
  obtain ⟨rfl, rfl⟩ := se2 hF
  exact w_iret X hH hr dX10_factsWith_15

theorem dX10_necessaryConstraints_0 : decode cX10_necessaryConstraints 0 = .ok (.aload_n 0, 1) := by decide +kernel
theorem dX10_necessaryConstraints_1 : decode cX10_necessaryConstraints 1 = .ok (.iconst 0, 1) := by decide +kernel
theorem dX10_necessaryConstraints_2 : decode cX10_necessaryConstraints 2 = .ok (.putfield 85, 3) := by decide +kernel
theorem dX10_necessaryConstraints_5 : decode cX10_necessaryConstraints 5 = .ok (.aload_n 0, 1) := by decide +kernel
theorem dX10_necessaryConstraints_6 : decode cX10_necessaryConstraints 6 = .ok (.iload_n 1, 1) := by decide +kernel
theorem dX10_necessaryConstraints_7 : decode cX10_necessaryConstraints 7 = .ok (.iload_n 2, 1) := by decide +kernel
theorem dX10_necessaryConstraints_8 : decode cX10_necessaryConstraints 8 = .ok (.invokevirtual 297, 3) := by decide +kernel
theorem dX10_necessaryConstraints_11 : decode cX10_necessaryConstraints 11 = .ok (.ifCond .ne 5, 3) := by decide +kernel
theorem dX10_necessaryConstraints_14 : decode cX10_necessaryConstraints 14 = .ok (.iconst (-1), 1) := by decide +kernel
theorem dX10_necessaryConstraints_15 : decode cX10_necessaryConstraints 15 = .ok (.ireturn, 1) := by decide +kernel
theorem dX10_necessaryConstraints_16 : decode cX10_necessaryConstraints 16 = .ok (.aload_n 0, 1) := by decide +kernel
theorem dX10_necessaryConstraints_17 : decode cX10_necessaryConstraints 17 = .ok (.iload_n 1, 1) := by decide +kernel
theorem dX10_necessaryConstraints_18 : decode cX10_necessaryConstraints 18 = .ok (.invokevirtual 263, 3) := by decide +kernel
theorem dX10_necessaryConstraints_21 : decode cX10_necessaryConstraints 21 = .ok (.istore_n 3, 1) := by decide +kernel
theorem dX10_necessaryConstraints_22 : decode cX10_necessaryConstraints 22 = .ok (.aload_n 0, 1) := by decide +kernel
theorem dX10_necessaryConstraints_23 : decode cX10_necessaryConstraints 23 = .ok (.iload_n 3, 1) := by decide +kernel
theorem dX10_necessaryConstraints_24 : decode cX10_necessaryConstraints 24 = .ok (.iload_n 2, 1) := by decide +kernel
theorem dX10_necessaryConstraints_25 : decode cX10_necessaryConstraints 25 = .ok (.invokevirtual 266, 3) := by decide +kernel
theorem dX10_necessaryConstraints_28 : decode cX10_necessaryConstraints 28 = .ok (.ifCond .ne 5, 3) := by decide +kernel
theorem dX10_necessaryConstraints_31 : decode cX10_necessaryConstraints 31 = .ok (.iconst 0, 1) := by decide +kernel
theorem dX10_necessaryConstraints_32 : decode cX10_necessaryConstraints 32 = .ok (.ireturn, 1) := by decide +kernel
theorem dX10_necessaryConstraints_33 : decode cX10_necessaryConstraints 33 = .ok (.iconst 0, 1) := by decide +kernel
theorem dX10_necessaryConstraints_34 : decode cX10_necessaryConstraints 34 = .ok (.istore 4, 2) := by decide +kernel
theorem dX10_necessaryConstraints_36 : decode cX10_necessaryConstraints 36 = .ok (.iconst 0, 1) := by decide +kernel
theorem dX10_necessaryConstraints_37 : decode cX10_necessaryConstraints 37 = .ok (.istore 5, 2) := by decide +kernel
theorem dX10_necessaryConstraints_39 : decode cX10_necessaryConstraints 39 = .ok (.iload 5, 2) := by decide +kernel
theorem dX10_necessaryConstraints_41 : decode cX10_necessaryConstraints 41 = .ok (.aload_n 0, 1) := by decide +kernel
theorem dX10_necessaryConstraints_42 : decode cX10_necessaryConstraints 42 = .ok (.getfield 39, 3) := by decide +kernel
theorem dX10_necessaryConstraints_45 : decode cX10_necessaryConstraints 45 = .ok (.iconst 0, 1) := by decide +kernel
theorem dX10_necessaryConstraints_46 : decode cX10_necessaryConstraints 46 = .ok (.iaload, 1) := by decide +kernel
theorem dX10_necessaryConstraints_47 : decode cX10_necessaryConstraints 47 = .ok (.if_icmp .ge 64, 3) := by decide +kernel
theorem dX10_necessaryConstraints_50 : decode cX10_necessaryConstraints 50 = .ok (.aload_n 0, 1) := by decide +kernel
theorem dX10_necessaryConstraints_51 : decode cX10_necessaryConstraints 51 = .ok (.iload 5, 2) := by decide +kernel
theorem dX10_necessaryConstraints_53 : decode cX10_necessaryConstraints 53 = .ok (.invokevirtual 251, 3) := by decide +kernel
theorem dX10_necessaryConstraints_56 : decode cX10_necessaryConstraints 56 = .ok (.ifCond .ne 6, 3) := by decide +kernel
theorem dX10_necessaryConstraints_59 : decode cX10_necessaryConstraints 59 = .ok (.goto 46, 3) := by decide +kernel
theorem dX10_necessaryConstraints_62 : decode cX10_necessaryConstraints 62 = .ok (.aload_n 0, 1) := by decide +kernel
theorem dX10_necessaryConstraints_63 : decode cX10_necessaryConstraints 63 = .ok (.aload_n 0, 1) := by decide +kernel
theorem dX10_necessaryConstraints_64 : decode cX10_necessaryConstraints 64 = .ok (.getfield 39, 3) := by decide +kernel
theorem dX10_necessaryConstraints_67 : decode cX10_necessaryConstraints 67 = .ok (.iconst 1, 1) := by decide +kernel
theorem dX10_necessaryConstraints_68 : decode cX10_necessaryConstraints 68 = .ok (.iaload, 1) := by decide +kernel
theorem dX10_necessaryConstraints_69 : decode cX10_necessaryConstraints 69 = .ok (.iconst 1, 1) := by decide +kernel
theorem dX10_necessaryConstraints_70 : decode cX10_necessaryConstraints 70 = .ok (.iload 5, 2) := by decide +kernel
theorem dX10_necessaryConstraints_72 : decode cX10_necessaryConstraints 72 = .ok (.ishl, 1) := by decide +kernel
theorem dX10_necessaryConstraints_73 : decode cX10_necessaryConstraints 73 = .ok (.iconst (-1), 1) := by decide +kernel
theorem dX10_necessaryConstraints_74 : decode cX10_necessaryConstraints 74 = .ok (.ixor, 1) := by decide +kernel
theorem dX10_necessaryConstraints_75 : decode cX10_necessaryConstraints 75 = .ok (.iand, 1) := by decide +kernel
theorem dX10_necessaryConstraints_76 : decode cX10_necessaryConstraints 76 = .ok (.invokevirtual 323, 3) := by decide +kernel
theorem dX10_necessaryConstraints_79 : decode cX10_necessaryConstraints 79 = .ok (.iload 4, 2) := by decide +kernel
theorem dX10_necessaryConstraints_81 : decode cX10_necessaryConstraints 81 = .ok (.aload_n 0, 1) := by decide +kernel
theorem dX10_necessaryConstraints_82 : decode cX10_necessaryConstraints 82 = .ok (.iload_n 3, 1) := by decide +kernel
theorem dX10_necessaryConstraints_83 : decode cX10_necessaryConstraints 83 = .ok (.iload_n 2, 1) := by decide +kernel
theorem dX10_necessaryConstraints_84 : decode cX10_necessaryConstraints 84 = .ok (.invokevirtual 266, 3) := by decide +kernel
theorem dX10_necessaryConstraints_87 : decode cX10_necessaryConstraints 87 = .ok (.ifCond .eq 7, 3) := by decide +kernel
theorem dX10_necessaryConstraints_90 : decode cX10_necessaryConstraints 90 = .ok (.iconst 0, 1) := by decide +kernel
theorem dX10_necessaryConstraints_91 : decode cX10_necessaryConstraints 91 = .ok (.goto 7, 3) := by decide +kernel
theorem dX10_necessaryConstraints_94 : decode cX10_necessaryConstraints 94 = .ok (.iconst 1, 1) := by decide +kernel
theorem dX10_necessaryConstraints_95 : decode cX10_necessaryConstraints 95 = .ok (.iload 5, 2) := by decide +kernel
theorem dX10_necessaryConstraints_97 : decode cX10_necessaryConstraints 97 = .ok (.ishl, 1) := by decide +kernel
theorem dX10_necessaryConstraints_98 : decode cX10_necessaryConstraints 98 = .ok (.ior, 1) := by decide +kernel
theorem dX10_necessaryConstraints_99 : decode cX10_necessaryConstraints 99 = .ok (.istore 4, 2) := by decide +kernel
theorem dX10_necessaryConstraints_101 : decode cX10_necessaryConstraints 101 = .ok (.aload_n 0, 1) := by decide +kernel
theorem dX10_necessaryConstraints_102 : decode cX10_necessaryConstraints 102 = .ok (.invokevirtual 326, 3) := by decide +kernel
theorem dX10_necessaryConstraints_105 : decode cX10_necessaryConstraints 105 = .ok (.iinc 5 1, 3) := by decide +kernel
theorem dX10_necessaryConstraints_108 : decode cX10_necessaryConstraints 108 = .ok (.goto (-69), 3) := by decide +kernel
theorem dX10_necessaryConstraints_111 : decode cX10_necessaryConstraints 111 = .ok (.iload 4, 2) := by decide +kernel
theorem dX10_necessaryConstraints_113 : decode cX10_necessaryConstraints 113 = .ok (.ireturn, 1) := by decide +kernel
set_option maxHeartbeats 4000000 in
set_option maxRecDepth 100000 in
theorem c_X10_necessaryConstraints {l : Launch} {g : Gh} {w : Wd} {k0 : Nat} {v_location : Int32} {v_o : Int32} {rz : Int32} {wz : Wd} (hF : f_X10_necessaryConstraints w k0 v_location v_o = some (rz, wz)) (hk0 : zct zM k0 = 10) : Met l yX10_necessaryConstraints (Cond.code yX10_necessaryConstraints cX10_necessaryConstraints 6 (some .int) :: TT) (rmd 4) (Pcw zM g w [.ref (g.2.2 k0), .int (v_location), .int (v_o)]) (Qw zM g wz (some (.int (rz)))) 0 0 (zA zM g) := by
  refine mt_start (by decide) (Nat.le_of_ble_eq_true rfl) ?_
  intro p e s m args below meth c H locs ls X hr hl hH
  have hx := X.1
  have hb := X.2.1
  have hml := X.2.2.1
  have hown := X.2.2.2.1
  have ht := X.2.2.2.2.1
  have hl : lv_has ls 6 [(0, .ref (g.2.2 (k0))), (1, .int (v_location)), (2, .int (v_o))] := hl
  unfold f_X10_necessaryConstraints at hF
  refine lv_aload_n hx hb dX10_necessaryConstraints_0 rfl (lv_at hl 0 rfl) ?_
  refine lv_iconst (v := (0 : Int32)) hx hb dX10_necessaryConstraints_1 (by decide) ?_
  obtain ⟨w1, h1, hF⟩ := ob hF
  refine w_puti X hH h1 hk0 fs_10_0 nf_10_0 lk_10_85 dX10_necessaryConstraints_2 (fun H locs hH => ?_)
  refine lv_aload_n hx hb dX10_necessaryConstraints_5 rfl (lv_at hl 0 rfl) ?_
  refine lv_iload_n hx hb dX10_necessaryConstraints_6 rfl (lv_at hl 1 rfl) ?_
  refine lv_iload_n hx hb dX10_necessaryConstraints_7 rfl (lv_at hl 2 rfl) ?_
  obtain ⟨x2, h2, hF⟩ := ob hF
  refine w_callV (As := [.int (v_location), .int (v_o)]) (k := k0) (rest := []) (st1 := [.int (bI (x2))]) X hH (c_X10_areValid (l := l) (g := g) (w := w1) (k0 := k0) (v_location := v_location) (v_o := v_o) h2 hk0) (Or.inl tw_6_200) ms_X10_areValid im_X10_areValid hk0 cn_10 ⟨Nat.le_of_ble_eq_true rfl, Nat.le_of_ble_eq_true rfl⟩ rfl rfl hl.1 (Nat.le_of_ble_eq_true rfl) dX10_necessaryConstraints_8 ⟨Nat.le_refl _, Nat.le_refl _⟩ rfl (fun H locs hH => ?_)
  refine w_b_t (tgt := 16) hx hb dX10_necessaryConstraints_11 (by decide) (fun c3 => ?_) (fun c3 => ?_)
  · replace hF := ifn (fun z => z c3) hF
    refine lv_aload_n hx hb dX10_necessaryConstraints_16 rfl (lv_at hl 0 rfl) ?_
    refine lv_iload_n hx hb dX10_necessaryConstraints_17 rfl (lv_at hl 1 rfl) ?_
    obtain ⟨x4, h4, hF⟩ := ob hF
    refine w_callV (As := [.int (v_location)]) (k := k0) (rest := []) (st1 := [.int (x4)]) X hH (c_X10_indexOf (l := l) (g := g) (w := w1) (k0 := k0) (v_location := v_location) h4 hk0) (Or.inl tw_6_172) ms_X10_indexOf im_X10_indexOf hk0 cn_10 ⟨Nat.le_of_ble_eq_true rfl, Nat.le_of_ble_eq_true rfl⟩ rfl rfl hl.1 (Nat.le_of_ble_eq_true rfl) dX10_necessaryConstraints_18 ⟨Nat.le_refl _, Nat.le_refl _⟩ rfl (fun H locs hH => ?_)
    refine lv_istore_n (lv' := [(3, .int (x4)), (0, .ref (g.2.2 (k0))), (1, .int (v_location)), (2, .int (v_o))]) hx hb dX10_necessaryConstraints_21 rfl hl (by decide) rfl (fun ls hl => ?_)
    refine lv_aload_n hx hb dX10_necessaryConstraints_22 rfl (lv_at hl 1 rfl) ?_
    refine lv_iload_n hx hb dX10_necessaryConstraints_23 rfl (lv_at hl 0 rfl) ?_
    refine lv_iload_n hx hb dX10_necessaryConstraints_24 rfl (lv_at hl 3 rfl) ?_
    obtain ⟨x5, h5, hF⟩ := ob hF
    refine w_callV (As := [.int (x4), .int (v_o)]) (k := k0) (rest := []) (st1 := [.int (bI (x5))]) X hH (c_X10_isFact (l := l) (g := g) (w := w1) (k0 := k0) (v_index := x4) (v_o := v_o) h5 hk0) (Or.inl tw_6_204) ms_X10_isFact im_X10_isFact hk0 cn_10 ⟨Nat.le_of_ble_eq_true rfl, Nat.le_of_ble_eq_true rfl⟩ rfl rfl hl.1 (Nat.le_of_ble_eq_true rfl) dX10_necessaryConstraints_25 ⟨Nat.le_refl _, Nat.le_refl _⟩ rfl (fun H locs hH => ?_)
    refine w_b_t (tgt := 33) hx hb dX10_necessaryConstraints_28 (by decide) (fun c6 => ?_) (fun c6 => ?_)
    · replace hF := ifn (fun z => z c6) hF
      refine lv_iconst (v := (0 : Int32)) hx hb dX10_necessaryConstraints_33 (by decide) ?_
      refine lv_istore (lv' := [(4, .int ((0 : Int32))), (3, .int (x4)), (0, .ref (g.2.2 (k0))), (1, .int (v_location)), (2, .int (v_o))]) hx hb dX10_necessaryConstraints_34 hl (by decide) rfl (fun ls hl => ?_)
      refine lv_iconst (v := (0 : Int32)) hx hb dX10_necessaryConstraints_36 (by decide) ?_
      refine lv_istore (lv' := [(5, .int ((0 : Int32))), (4, .int ((0 : Int32))), (3, .int (x4)), (0, .ref (g.2.2 (k0))), (1, .int (v_location)), (2, .int (v_o))]) hx hb dX10_necessaryConstraints_37 hl (by decide) rfl (fun ls hl => ?_)
      obtain ⟨r8, hLr8, hF⟩ := ob hF
      have Jr8 : ∀ (H : Heap) (locs : List Loc) (ls : Array Slot), HW zM g r8.2 s.heap H locs → lv_has ls 6 [(0, .ref (g.2.2 (k0))), (1, .int (v_location)), (2, .int (v_o)), (3, .int (x4)), (4, .int (r8.1))] → W p l e (rmd 4) s m args below meth c H locs 0 0 (MQ below (Qw zM g wz (some (.int (rz)))) args s 0 0 (zA zM g)) (F0 m 111 ls []) := by
        intro H locs ls hH hl
        refine lv_iload hx hb dX10_necessaryConstraints_111 (lv_at hl 4 rfl) ?_
        obtain ⟨rfl, rfl⟩ := se2 hF
        exact w_iret X hH hr dX10_necessaryConstraints_113
      have Lr8 : ∀ (n : Nat) (s7 : Int32 × Int32 × Wd), lp (b_X10_necessaryConstraints_1 k0 x4 v_o) n s7 = some r8 → ∀ (H : Heap) (locs : List Loc) (ls : Array Slot), HW zM g s7.2.2 s.heap H locs → lv_has ls 6 [(0, .ref (g.2.2 (k0))), (1, .int (v_location)), (2, .int (v_o)), (3, .int (x4)), (4, .int (s7.1)), (5, .int (s7.2.1))] → W p l e (rmd 4) s m args below meth c H locs 0 0 (MQ below (Qw zM g wz (some (.int (rz)))) args s 0 0 (zA zM g)) (F0 m 39 ls []) := by
        intro n
        induction n with
        | zero => intro s7 hL; exact lp_0 hL
        | succ n ih =>
          intro s7 hL H locs ls hH hl
          obtain ⟨bb, hF, hL⟩ := lp_s hL
          unfold b_X10_necessaryConstraints_1 at hF
          refine lv_iload hx hb dX10_necessaryConstraints_39 (lv_at hl 5 rfl) ?_
          refine lv_aload_n hx hb dX10_necessaryConstraints_41 rfl (lv_at hl 0 rfl) ?_
          refine w_getr X hH hk0 fs_10_18 lk_10_39 dX10_necessaryConstraints_42 ?_
          refine lv_iconst (v := (0 : Int32)) hx hb dX10_necessaryConstraints_45 (by decide) ?_
          obtain ⟨x9, h9, hF⟩ := ob hF
          refine w_iald X hH h9 (rt_M_10_18 hk0) dX10_necessaryConstraints_46 ?_
          refine w_ilt_f (tgt := 111) hx hb dX10_necessaryConstraints_47 (by decide) (fun c10 => ?_) (fun c10 => ?_)
          · replace hF := ifn c10 hF
            obtain rfl := se1 hF
            subst hL
            exact Jr8 _ _ _ hH (lv_sub hl [0, 1, 2, 3, 4] rfl)
          · replace hF := ifp c10 hF
            refine lv_aload_n hx hb dX10_necessaryConstraints_50 rfl (lv_at hl 0 rfl) ?_
            refine lv_iload hx hb dX10_necessaryConstraints_51 (lv_at hl 5 rfl) ?_
            obtain ⟨x11, h11, hF⟩ := ob hF
            refine w_callV (As := [.int (s7.2.1)]) (k := k0) (rest := []) (st1 := [.int (bI (x11))]) X hH (c_X10_isEnabled (l := l) (g := g) (w := s7.2.2) (k0 := k0) (v_c := s7.2.1) h11 hk0) (Or.inl tw_5_37) ms_X10_isEnabled im_X10_isEnabled hk0 cn_10 ⟨Nat.le_of_ble_eq_true rfl, Nat.le_of_ble_eq_true rfl⟩ rfl rfl hl.1 (Nat.le_of_ble_eq_true rfl) dX10_necessaryConstraints_53 ⟨Nat.le_refl _, Nat.le_refl _⟩ rfl (fun H locs hH => ?_)
            refine w_b_t (tgt := 62) hx hb dX10_necessaryConstraints_56 (by decide) (fun c12 => ?_) (fun c12 => ?_)
            · replace hF := ifn (fun z => z c12) hF
              refine lv_aload_n hx hb dX10_necessaryConstraints_62 rfl (lv_at hl 0 rfl) ?_
              refine lv_aload_n hx hb dX10_necessaryConstraints_63 rfl (lv_at hl 0 rfl) ?_
              refine w_getr X hH hk0 fs_10_18 lk_10_39 dX10_necessaryConstraints_64 ?_
              refine lv_iconst (v := (1 : Int32)) hx hb dX10_necessaryConstraints_67 (by decide) ?_
              obtain ⟨x13, h13, hF⟩ := ob hF
              refine w_iald X hH h13 (rt_M_10_18 hk0) dX10_necessaryConstraints_68 ?_
              refine lv_iconst (v := (1 : Int32)) hx hb dX10_necessaryConstraints_69 (by decide) ?_
              refine lv_iload hx hb dX10_necessaryConstraints_70 (lv_at hl 5 rfl) ?_
              refine w_ishl hx hb dX10_necessaryConstraints_72 ?_
              refine lv_iconst (v := (-1 : Int32)) hx hb dX10_necessaryConstraints_73 (by decide) ?_
              refine lv_ixor hx hb dX10_necessaryConstraints_74 ?_
              refine lv_iand hx hb dX10_necessaryConstraints_75 ?_
              obtain ⟨w14, h14, hF⟩ := ob hF
              refine w_callV (As := [.int ((x13 &&& ((jshl ((1 : Int32)) (s7.2.1)) ^^^ (-1 : Int32))))]) (k := k0) (rest := []) (st1 := []) X hH (c_X10_solveWith (l := l) (g := g) (w := s7.2.2) (k0 := k0) (v_enabled := (x13 &&& ((jshl ((1 : Int32)) (s7.2.1)) ^^^ (-1 : Int32)))) h14 hk0) (Or.inl tw_7_27) ms_X10_solveWith im_X10_solveWith hk0 cn_10 ⟨Nat.le_of_ble_eq_true rfl, Nat.le_of_ble_eq_true rfl⟩ rfl rfl hl.1 (Nat.le_of_ble_eq_true rfl) dX10_necessaryConstraints_76 ⟨Nat.le_refl _, Nat.le_refl _⟩ rfl (fun H locs hH => ?_)
              refine lv_iload hx hb dX10_necessaryConstraints_79 (lv_at hl 4 rfl) ?_
              refine lv_aload_n hx hb dX10_necessaryConstraints_81 rfl (lv_at hl 0 rfl) ?_
              refine lv_iload_n hx hb dX10_necessaryConstraints_82 rfl (lv_at hl 3 rfl) ?_
              refine lv_iload_n hx hb dX10_necessaryConstraints_83 rfl (lv_at hl 2 rfl) ?_
              obtain ⟨x16, h16, hF⟩ := ob hF
              refine w_callV (As := [.int (x4), .int (v_o)]) (k := k0) (rest := [.int (s7.1)]) (st1 := [.int (bI (x16)), .int (s7.1)]) X hH (c_X10_isFact (l := l) (g := g) (w := w14) (k0 := k0) (v_index := x4) (v_o := v_o) h16 hk0) (Or.inl tw_6_204) ms_X10_isFact im_X10_isFact hk0 cn_10 ⟨Nat.le_of_ble_eq_true rfl, Nat.le_of_ble_eq_true rfl⟩ rfl rfl hl.1 (Nat.le_of_ble_eq_true rfl) dX10_necessaryConstraints_84 ⟨Nat.le_refl _, Nat.le_refl _⟩ rfl (fun H locs hH => ?_)
              have J15 : ∀ (H : Heap) (locs : List Loc), HW zM g w14 s.heap H locs → W p l e (rmd 4) s m args below meth c H locs 0 0 (MQ below (Qw zM g wz (some (.int (rz)))) args s 0 0 (zA zM g)) (F0 m 98 ls [.int ((if x16 = true then (0 : Int32) else (jshl ((1 : Int32)) (s7.2.1)))), .int (s7.1)]) := by
                intro H locs hH
                refine lv_ior hx hb dX10_necessaryConstraints_98 ?_
                refine lv_istore (lv' := [(4, .int ((s7.1 ||| (if x16 = true then (0 : Int32) else (jshl ((1 : Int32)) (s7.2.1)))))), (0, .ref (g.2.2 (k0))), (1, .int (v_location)), (2, .int (v_o)), (3, .int (x4)), (5, .int (s7.2.1))]) hx hb dX10_necessaryConstraints_99 hl (by decide) rfl (fun ls hl => ?_)
                refine lv_aload_n hx hb dX10_necessaryConstraints_101 rfl (lv_at hl 1 rfl) ?_
                obtain ⟨w18, h18, hF⟩ := ob hF
                refine w_callV (As := []) (k := k0) (rest := []) (st1 := []) X hH (c_X10_solveAgain (l := l) (g := g) (w := w14) (k0 := k0) h18 hk0) (Or.inl tw_7_31) ms_X10_solveAgain im_X10_solveAgain hk0 cn_10 ⟨Nat.le_of_ble_eq_true rfl, Nat.le_of_ble_eq_true rfl⟩ rfl rfl hl.1 (Nat.le_of_ble_eq_true rfl) dX10_necessaryConstraints_102 ⟨Nat.le_refl _, Nat.le_refl _⟩ rfl (fun H locs hH => ?_)
                refine lv_iinc (v := (s7.2.1 + (1 : Int32))) (lv' := [(5, .int ((s7.2.1 + (1 : Int32)))), (4, .int ((s7.1 ||| (if x16 = true then (0 : Int32) else (jshl ((1 : Int32)) (s7.2.1)))))), (0, .ref (g.2.2 (k0))), (1, .int (v_location)), (2, .int (v_o)), (3, .int (x4))]) hx hb dX10_necessaryConstraints_105 hl (k := 5) rfl rfl (by decide) rfl (fun ls hl => ?_)
                refine lv_goto (tgt := 39) hx hb dX10_necessaryConstraints_108 (by decide) ?_
                obtain rfl := se1 hF
                exact ih _ hL _ _ _ hH (lv_sub hl [2, 3, 4, 5, 1, 0] rfl)
              refine w_b_f (tgt := 94) hx hb dX10_necessaryConstraints_87 (by decide) (fun c17 => ?_) (fun c17 => ?_)
              · refine lv_iconst (v := (1 : Int32)) hx hb dX10_necessaryConstraints_94 (by decide) ?_
                refine lv_iload hx hb dX10_necessaryConstraints_95 (lv_at hl 5 rfl) ?_
                refine w_ishl hx hb dX10_necessaryConstraints_97 ?_
                exact w_in c17 (J15 _ _ hH)
              · refine lv_iconst (v := (0 : Int32)) hx hb dX10_necessaryConstraints_90 (by decide) ?_
                refine lv_goto (tgt := 98) hx hb dX10_necessaryConstraints_91 (by decide) ?_
                exact w_ip c17 (J15 _ _ hH)
            · replace hF := ifp c12 hF
              refine lv_goto (tgt := 105) hx hb dX10_necessaryConstraints_59 (by decide) ?_
              refine lv_iinc (v := (s7.2.1 + (1 : Int32))) (lv' := [(5, .int ((s7.2.1 + (1 : Int32)))), (0, .ref (g.2.2 (k0))), (1, .int (v_location)), (2, .int (v_o)), (3, .int (x4)), (4, .int (s7.1))]) hx hb dX10_necessaryConstraints_105 hl (k := 5) rfl rfl (by decide) rfl (fun ls hl => ?_)
              refine lv_goto (tgt := 39) hx hb dX10_necessaryConstraints_108 (by decide) ?_
              obtain rfl := se1 hF
              exact ih _ hL _ _ _ hH (lv_sub hl [1, 2, 3, 4, 5, 0] rfl)
      exact Lr8 NF _ hLr8 _ _ _ hH (lv_sub hl [3, 4, 5, 2, 1, 0] rfl)
    · replace hF := ifp c6 hF
      refine lv_iconst (v := (0 : Int32)) hx hb dX10_necessaryConstraints_31 (by decide) ?_
      obtain ⟨rfl, rfl⟩ := se2 hF
      exact w_iret X hH hr dX10_necessaryConstraints_32
  · replace hF := ifp c3 hF
    refine lv_iconst (v := (-1 : Int32)) hx hb dX10_necessaryConstraints_14 (by decide) ?_
    obtain ⟨rfl, rfl⟩ := se2 hF
    exact w_iret X hH hr dX10_necessaryConstraints_15

theorem dX10_edge_0 : decode cX10_edge 0 = .ok (.iload_n 1, 1) := by decide +kernel
theorem dX10_edge_1 : decode cX10_edge 1 = .ok (.iload_n 2, 1) := by decide +kernel
theorem dX10_edge_2 : decode cX10_edge 2 = .ok (.if_icmp .eq 15, 3) := by decide +kernel
theorem dX10_edge_5 : decode cX10_edge 5 = .ok (.aload_n 0, 1) := by decide +kernel
theorem dX10_edge_6 : decode cX10_edge 6 = .ok (.getfield 70, 3) := by decide +kernel
theorem dX10_edge_9 : decode cX10_edge 9 = .ok (.iload_n 1, 1) := by decide +kernel
theorem dX10_edge_10 : decode cX10_edge 10 = .ok (.dup2, 1) := by decide +kernel
theorem dX10_edge_11 : decode cX10_edge 11 = .ok (.laload, 1) := by decide +kernel
theorem dX10_edge_12 : decode cX10_edge 12 = .ok (.lconst 1, 1) := by decide +kernel
theorem dX10_edge_13 : decode cX10_edge 13 = .ok (.iload_n 2, 1) := by decide +kernel
theorem dX10_edge_14 : decode cX10_edge 14 = .ok (.lshl, 1) := by decide +kernel
theorem dX10_edge_15 : decode cX10_edge 15 = .ok (.lor, 1) := by decide +kernel
theorem dX10_edge_16 : decode cX10_edge 16 = .ok (.lastore, 1) := by decide +kernel
theorem dX10_edge_17 : decode cX10_edge 17 = .ok (.return_, 1) := by decide +kernel
set_option maxHeartbeats 4000000 in
set_option maxRecDepth 100000 in
theorem c_X10_edge {l : Launch} {g : Gh} {w : Wd} {k0 : Nat} {v_from : Int32} {v_to : Int32} {wz : Wd} (hF : f_X10_edge w k0 v_from v_to = some wz) (hk0 : zct zM k0 = 10) : Met l yX10_edge (Cond.code yX10_edge cX10_edge 3 none :: TT) (rmd 0) (Pcw zM g w [.ref (g.2.2 k0), .int (v_from), .int (v_to)]) (Qw zM g wz none) 0 0 (zA zM g) := by
  refine mt_start (by decide) (Nat.le_of_ble_eq_true rfl) ?_
  intro p e s m args below meth c H locs ls X hr hl hH
  have hx := X.1
  have hb := X.2.1
  have hml := X.2.2.1
  have hown := X.2.2.2.1
  have ht := X.2.2.2.2.1
  have hl : lv_has ls 3 [(0, .ref (g.2.2 (k0))), (1, .int (v_from)), (2, .int (v_to))] := hl
  unfold f_X10_edge at hF
  obtain ⟨s1, hs1, hF⟩ := ob hF
  have Js1 : ∀ (H : Heap) (locs : List Loc) (ls : Array Slot), HW zM g s1 s.heap H locs → lv_has ls 3 [(0, .ref (g.2.2 (k0))), (1, .int (v_from)), (2, .int (v_to))] → W p l e (rmd 0) s m args below meth c H locs 0 0 (MQ below (Qw zM g wz none) args s 0 0 (zA zM g)) (F0 m 17 ls []) := by
    intro H locs ls hH hl
    obtain rfl := se1 hF
    exact w_vret X hH hr dX10_edge_17
  have hF := hs1
  refine lv_iload_n hx hb dX10_edge_0 rfl (lv_at hl 1 rfl) ?_
  refine lv_iload_n hx hb dX10_edge_1 rfl (lv_at hl 2 rfl) ?_
  refine w_ine_f (tgt := 17) hx hb dX10_edge_2 (by decide) (fun c2 => ?_) (fun c2 => ?_)
  · replace hF := ifn c2 hF
    obtain rfl := se1 hF
    exact Js1 _ _ _ hH (lv_sub hl [0, 1, 2] rfl)
  · replace hF := ifp c2 hF
    refine lv_aload_n hx hb dX10_edge_5 rfl (lv_at hl 0 rfl) ?_
    refine w_getr X hH hk0 fs_10_37 lk_10_70 dX10_edge_6 ?_
    refine lv_iload_n hx hb dX10_edge_9 rfl (lv_at hl 1 rfl) ?_
    refine lv_dup2_11 hx hb dX10_edge_10 rfl rfl ?_
    obtain ⟨x3, h3, hF⟩ := ob hF
    refine w_lald X hH h3 (rt_M_10_37 hk0) dX10_edge_11 ?_
    refine lv_lconst (v := 1) hx hb dX10_edge_12 (by decide) ?_
    refine lv_iload_n hx hb dX10_edge_13 rfl (lv_at hl 2 rfl) ?_
    refine w_lshl hx hb dX10_edge_14 ?_
    refine lv_lor hx hb dX10_edge_15 ?_
    obtain ⟨w4, h4, hF⟩ := ob hF
    refine w_last X hH h4 (rt_M_10_37 hk0) dX10_edge_16 (fun H locs hH => ?_)
    obtain rfl := se1 hF
    exact Js1 _ _ _ hH (lv_sub hl [0, 1, 2] rfl)

theorem dX10_layEdges_0 : decode cX10_layEdges 0 = .ok (.iconst 0, 1) := by decide +kernel
theorem dX10_layEdges_1 : decode cX10_layEdges 1 = .ok (.istore_n 1, 1) := by decide +kernel
theorem dX10_layEdges_2 : decode cX10_layEdges 2 = .ok (.iload_n 1, 1) := by decide +kernel
theorem dX10_layEdges_3 : decode cX10_layEdges 3 = .ok (.bipush 56, 2) := by decide +kernel
theorem dX10_layEdges_5 : decode cX10_layEdges 5 = .ok (.if_icmp .ge 16, 3) := by decide +kernel
theorem dX10_layEdges_8 : decode cX10_layEdges 8 = .ok (.aload_n 0, 1) := by decide +kernel
theorem dX10_layEdges_9 : decode cX10_layEdges 9 = .ok (.getfield 70, 3) := by decide +kernel
theorem dX10_layEdges_12 : decode cX10_layEdges 12 = .ok (.iload_n 1, 1) := by decide +kernel
theorem dX10_layEdges_13 : decode cX10_layEdges 13 = .ok (.lconst 0, 1) := by decide +kernel
theorem dX10_layEdges_14 : decode cX10_layEdges 14 = .ok (.lastore, 1) := by decide +kernel
theorem dX10_layEdges_15 : decode cX10_layEdges 15 = .ok (.iinc 1 1, 3) := by decide +kernel
theorem dX10_layEdges_18 : decode cX10_layEdges 18 = .ok (.goto (-16), 3) := by decide +kernel
theorem dX10_layEdges_21 : decode cX10_layEdges 21 = .ok (.iconst 0, 1) := by decide +kernel
theorem dX10_layEdges_22 : decode cX10_layEdges 22 = .ok (.istore_n 1, 1) := by decide +kernel
theorem dX10_layEdges_23 : decode cX10_layEdges 23 = .ok (.iload_n 1, 1) := by decide +kernel
theorem dX10_layEdges_24 : decode cX10_layEdges 24 = .ok (.aload_n 0, 1) := by decide +kernel
theorem dX10_layEdges_25 : decode cX10_layEdges 25 = .ok (.getfield 39, 3) := by decide +kernel
theorem dX10_layEdges_28 : decode cX10_layEdges 28 = .ok (.iconst 0, 1) := by decide +kernel
theorem dX10_layEdges_29 : decode cX10_layEdges 29 = .ok (.iaload, 1) := by decide +kernel
theorem dX10_layEdges_30 : decode cX10_layEdges 30 = .ok (.if_icmp .ge 213, 3) := by decide +kernel
theorem dX10_layEdges_33 : decode cX10_layEdges 33 = .ok (.aload_n 0, 1) := by decide +kernel
theorem dX10_layEdges_34 : decode cX10_layEdges 34 = .ok (.iload_n 1, 1) := by decide +kernel
theorem dX10_layEdges_35 : decode cX10_layEdges 35 = .ok (.invokevirtual 251, 3) := by decide +kernel
theorem dX10_layEdges_38 : decode cX10_layEdges 38 = .ok (.ifCond .ne 6, 3) := by decide +kernel
theorem dX10_layEdges_41 : decode cX10_layEdges 41 = .ok (.goto 196, 3) := by decide +kernel
theorem dX10_layEdges_44 : decode cX10_layEdges 44 = .ok (.aload_n 0, 1) := by decide +kernel
theorem dX10_layEdges_45 : decode cX10_layEdges 45 = .ok (.iload_n 1, 1) := by decide +kernel
theorem dX10_layEdges_46 : decode cX10_layEdges 46 = .ok (.invokevirtual 217, 3) := by decide +kernel
theorem dX10_layEdges_49 : decode cX10_layEdges 49 = .ok (.iconst 1, 1) := by decide +kernel
theorem dX10_layEdges_50 : decode cX10_layEdges 50 = .ok (.if_icmp .ne 17, 3) := by decide +kernel
theorem dX10_layEdges_53 : decode cX10_layEdges 53 = .ok (.aload_n 0, 1) := by decide +kernel
theorem dX10_layEdges_54 : decode cX10_layEdges 54 = .ok (.aload_n 0, 1) := by decide +kernel
theorem dX10_layEdges_55 : decode cX10_layEdges 55 = .ok (.iload_n 1, 1) := by decide +kernel
theorem dX10_layEdges_56 : decode cX10_layEdges 56 = .ok (.invokevirtual 234, 3) := by decide +kernel
theorem dX10_layEdges_59 : decode cX10_layEdges 59 = .ok (.aload_n 0, 1) := by decide +kernel
theorem dX10_layEdges_60 : decode cX10_layEdges 60 = .ok (.iload_n 1, 1) := by decide +kernel
theorem dX10_layEdges_61 : decode cX10_layEdges 61 = .ok (.invokevirtual 231, 3) := by decide +kernel
theorem dX10_layEdges_64 : decode cX10_layEdges 64 = .ok (.invokevirtual 329, 3) := by decide +kernel
theorem dX10_layEdges_67 : decode cX10_layEdges 67 = .ok (.iconst 0, 1) := by decide +kernel
theorem dX10_layEdges_68 : decode cX10_layEdges 68 = .ok (.istore_n 2, 1) := by decide +kernel
theorem dX10_layEdges_69 : decode cX10_layEdges 69 = .ok (.iload_n 2, 1) := by decide +kernel
theorem dX10_layEdges_70 : decode cX10_layEdges 70 = .ok (.aload_n 0, 1) := by decide +kernel
theorem dX10_layEdges_71 : decode cX10_layEdges 71 = .ok (.getfield 17, 3) := by decide +kernel
theorem dX10_layEdges_74 : decode cX10_layEdges 74 = .ok (.iconst 0, 1) := by decide +kernel
theorem dX10_layEdges_75 : decode cX10_layEdges 75 = .ok (.iaload, 1) := by decide +kernel
theorem dX10_layEdges_76 : decode cX10_layEdges 76 = .ok (.if_icmp .ge 161, 3) := by decide +kernel
theorem dX10_layEdges_79 : decode cX10_layEdges 79 = .ok (.aload_n 0, 1) := by decide +kernel
theorem dX10_layEdges_80 : decode cX10_layEdges 80 = .ok (.iload_n 1, 1) := by decide +kernel
theorem dX10_layEdges_81 : decode cX10_layEdges 81 = .ok (.invokevirtual 217, 3) := by decide +kernel
theorem dX10_layEdges_84 : decode cX10_layEdges 84 = .ok (.iconst 2, 1) := by decide +kernel
theorem dX10_layEdges_85 : decode cX10_layEdges 85 = .ok (.if_icmp .ne 38, 3) := by decide +kernel
theorem dX10_layEdges_88 : decode cX10_layEdges 88 = .ok (.aload_n 0, 1) := by decide +kernel
theorem dX10_layEdges_89 : decode cX10_layEdges 89 = .ok (.getfield 55, 3) := by decide +kernel
theorem dX10_layEdges_92 : decode cX10_layEdges 92 = .ok (.aload_n 0, 1) := by decide +kernel
theorem dX10_layEdges_93 : decode cX10_layEdges 93 = .ok (.iload_n 1, 1) := by decide +kernel
theorem dX10_layEdges_94 : decode cX10_layEdges 94 = .ok (.invokevirtual 234, 3) := by decide +kernel
theorem dX10_layEdges_97 : decode cX10_layEdges 97 = .ok (.iaload, 1) := by decide +kernel
theorem dX10_layEdges_98 : decode cX10_layEdges 98 = .ok (.iload_n 2, 1) := by decide +kernel
theorem dX10_layEdges_99 : decode cX10_layEdges 99 = .ok (.invokestatic 210, 3) := by decide +kernel
theorem dX10_layEdges_102 : decode cX10_layEdges 102 = .ok (.ifCond .eq 21, 3) := by decide +kernel
theorem dX10_layEdges_105 : decode cX10_layEdges 105 = .ok (.aload_n 0, 1) := by decide +kernel
theorem dX10_layEdges_106 : decode cX10_layEdges 106 = .ok (.iload_n 2, 1) := by decide +kernel
theorem dX10_layEdges_107 : decode cX10_layEdges 107 = .ok (.aload_n 0, 1) := by decide +kernel
theorem dX10_layEdges_108 : decode cX10_layEdges 108 = .ok (.iload_n 1, 1) := by decide +kernel
theorem dX10_layEdges_109 : decode cX10_layEdges 109 = .ok (.invokevirtual 241, 3) := by decide +kernel
theorem dX10_layEdges_112 : decode cX10_layEdges 112 = .ok (.invokestatic 244, 3) := by decide +kernel
theorem dX10_layEdges_115 : decode cX10_layEdges 115 = .ok (.aload_n 0, 1) := by decide +kernel
theorem dX10_layEdges_116 : decode cX10_layEdges 116 = .ok (.iload_n 1, 1) := by decide +kernel
theorem dX10_layEdges_117 : decode cX10_layEdges 117 = .ok (.invokevirtual 231, 3) := by decide +kernel
theorem dX10_layEdges_120 : decode cX10_layEdges 120 = .ok (.invokevirtual 329, 3) := by decide +kernel
theorem dX10_layEdges_123 : decode cX10_layEdges 123 = .ok (.aload_n 0, 1) := by decide +kernel
theorem dX10_layEdges_124 : decode cX10_layEdges 124 = .ok (.iload_n 1, 1) := by decide +kernel
theorem dX10_layEdges_125 : decode cX10_layEdges 125 = .ok (.invokevirtual 217, 3) := by decide +kernel
theorem dX10_layEdges_128 : decode cX10_layEdges 128 = .ok (.iconst 3, 1) := by decide +kernel
theorem dX10_layEdges_129 : decode cX10_layEdges 129 = .ok (.if_icmp .ne 38, 3) := by decide +kernel
theorem dX10_layEdges_132 : decode cX10_layEdges 132 = .ok (.aload_n 0, 1) := by decide +kernel
theorem dX10_layEdges_133 : decode cX10_layEdges 133 = .ok (.getfield 55, 3) := by decide +kernel
theorem dX10_layEdges_136 : decode cX10_layEdges 136 = .ok (.aload_n 0, 1) := by decide +kernel
theorem dX10_layEdges_137 : decode cX10_layEdges 137 = .ok (.iload_n 1, 1) := by decide +kernel
theorem dX10_layEdges_138 : decode cX10_layEdges 138 = .ok (.invokevirtual 231, 3) := by decide +kernel
theorem dX10_layEdges_141 : decode cX10_layEdges 141 = .ok (.iaload, 1) := by decide +kernel
theorem dX10_layEdges_142 : decode cX10_layEdges 142 = .ok (.iload_n 2, 1) := by decide +kernel
theorem dX10_layEdges_143 : decode cX10_layEdges 143 = .ok (.invokestatic 210, 3) := by decide +kernel
theorem dX10_layEdges_146 : decode cX10_layEdges 146 = .ok (.ifCond .eq 21, 3) := by decide +kernel
theorem dX10_layEdges_149 : decode cX10_layEdges 149 = .ok (.aload_n 0, 1) := by decide +kernel
theorem dX10_layEdges_150 : decode cX10_layEdges 150 = .ok (.aload_n 0, 1) := by decide +kernel
theorem dX10_layEdges_151 : decode cX10_layEdges 151 = .ok (.iload_n 1, 1) := by decide +kernel
theorem dX10_layEdges_152 : decode cX10_layEdges 152 = .ok (.invokevirtual 241, 3) := by decide +kernel
theorem dX10_layEdges_155 : decode cX10_layEdges 155 = .ok (.iload_n 2, 1) := by decide +kernel
theorem dX10_layEdges_156 : decode cX10_layEdges 156 = .ok (.aload_n 0, 1) := by decide +kernel
theorem dX10_layEdges_157 : decode cX10_layEdges 157 = .ok (.iload_n 1, 1) := by decide +kernel
theorem dX10_layEdges_158 : decode cX10_layEdges 158 = .ok (.invokevirtual 234, 3) := by decide +kernel
theorem dX10_layEdges_161 : decode cX10_layEdges 161 = .ok (.invokestatic 244, 3) := by decide +kernel
theorem dX10_layEdges_164 : decode cX10_layEdges 164 = .ok (.invokevirtual 329, 3) := by decide +kernel
theorem dX10_layEdges_167 : decode cX10_layEdges 167 = .ok (.aload_n 0, 1) := by decide +kernel
theorem dX10_layEdges_168 : decode cX10_layEdges 168 = .ok (.iload_n 1, 1) := by decide +kernel
theorem dX10_layEdges_169 : decode cX10_layEdges 169 = .ok (.invokevirtual 217, 3) := by decide +kernel
theorem dX10_layEdges_172 : decode cX10_layEdges 172 = .ok (.iconst 4, 1) := by decide +kernel
theorem dX10_layEdges_173 : decode cX10_layEdges 173 = .ok (.if_icmp .ne 58, 3) := by decide +kernel
theorem dX10_layEdges_176 : decode cX10_layEdges 176 = .ok (.aload_n 0, 1) := by decide +kernel
theorem dX10_layEdges_177 : decode cX10_layEdges 177 = .ok (.getfield 55, 3) := by decide +kernel
theorem dX10_layEdges_180 : decode cX10_layEdges 180 = .ok (.aload_n 0, 1) := by decide +kernel
theorem dX10_layEdges_181 : decode cX10_layEdges 181 = .ok (.iload_n 1, 1) := by decide +kernel
theorem dX10_layEdges_182 : decode cX10_layEdges 182 = .ok (.invokevirtual 234, 3) := by decide +kernel
theorem dX10_layEdges_185 : decode cX10_layEdges 185 = .ok (.iaload, 1) := by decide +kernel
theorem dX10_layEdges_186 : decode cX10_layEdges 186 = .ok (.iload_n 2, 1) := by decide +kernel
theorem dX10_layEdges_187 : decode cX10_layEdges 187 = .ok (.invokestatic 210, 3) := by decide +kernel
theorem dX10_layEdges_190 : decode cX10_layEdges 190 = .ok (.ifCond .eq 41, 3) := by decide +kernel
theorem dX10_layEdges_193 : decode cX10_layEdges 193 = .ok (.aload_n 0, 1) := by decide +kernel
theorem dX10_layEdges_194 : decode cX10_layEdges 194 = .ok (.iload_n 2, 1) := by decide +kernel
theorem dX10_layEdges_195 : decode cX10_layEdges 195 = .ok (.invokevirtual 203, 3) := by decide +kernel
theorem dX10_layEdges_198 : decode cX10_layEdges 198 = .ok (.ifCond .eq 33, 3) := by decide +kernel
theorem dX10_layEdges_201 : decode cX10_layEdges 201 = .ok (.aload_n 0, 1) := by decide +kernel
theorem dX10_layEdges_202 : decode cX10_layEdges 202 = .ok (.aload_n 0, 1) := by decide +kernel
theorem dX10_layEdges_203 : decode cX10_layEdges 203 = .ok (.iload_n 1, 1) := by decide +kernel
theorem dX10_layEdges_204 : decode cX10_layEdges 204 = .ok (.invokevirtual 241, 3) := by decide +kernel
theorem dX10_layEdges_207 : decode cX10_layEdges 207 = .ok (.aload_n 0, 1) := by decide +kernel
theorem dX10_layEdges_208 : decode cX10_layEdges 208 = .ok (.getfield 33, 3) := by decide +kernel
theorem dX10_layEdges_211 : decode cX10_layEdges 211 = .ok (.iload_n 2, 1) := by decide +kernel
theorem dX10_layEdges_212 : decode cX10_layEdges 212 = .ok (.iaload, 1) := by decide +kernel
theorem dX10_layEdges_213 : decode cX10_layEdges 213 = .ok (.invokevirtual 329, 3) := by decide +kernel
theorem dX10_layEdges_216 : decode cX10_layEdges 216 = .ok (.aload_n 0, 1) := by decide +kernel
theorem dX10_layEdges_217 : decode cX10_layEdges 217 = .ok (.aload_n 0, 1) := by decide +kernel
theorem dX10_layEdges_218 : decode cX10_layEdges 218 = .ok (.getfield 36, 3) := by decide +kernel
theorem dX10_layEdges_221 : decode cX10_layEdges 221 = .ok (.iload_n 2, 1) := by decide +kernel
theorem dX10_layEdges_222 : decode cX10_layEdges 222 = .ok (.iaload, 1) := by decide +kernel
theorem dX10_layEdges_223 : decode cX10_layEdges 223 = .ok (.aload_n 0, 1) := by decide +kernel
theorem dX10_layEdges_224 : decode cX10_layEdges 224 = .ok (.iload_n 1, 1) := by decide +kernel
theorem dX10_layEdges_225 : decode cX10_layEdges 225 = .ok (.invokevirtual 231, 3) := by decide +kernel
theorem dX10_layEdges_228 : decode cX10_layEdges 228 = .ok (.invokevirtual 329, 3) := by decide +kernel
theorem dX10_layEdges_231 : decode cX10_layEdges 231 = .ok (.iinc 2 1, 3) := by decide +kernel
theorem dX10_layEdges_234 : decode cX10_layEdges 234 = .ok (.goto (-165), 3) := by decide +kernel
theorem dX10_layEdges_237 : decode cX10_layEdges 237 = .ok (.iinc 1 1, 3) := by decide +kernel
theorem dX10_layEdges_240 : decode cX10_layEdges 240 = .ok (.goto (-217), 3) := by decide +kernel
theorem dX10_layEdges_243 : decode cX10_layEdges 243 = .ok (.return_, 1) := by decide +kernel
set_option maxHeartbeats 4000000 in
set_option maxRecDepth 100000 in
theorem c_X10_layEdges {l : Launch} {g : Gh} {w : Wd} {k0 : Nat} {wz : Wd} (hF : f_X10_layEdges w k0 = some wz) (hk0 : zct zM k0 = 10) : Met l yX10_layEdges (Cond.code yX10_layEdges cX10_layEdges 3 none :: TT) (rmd 2) (Pcw zM g w [.ref (g.2.2 k0)]) (Qw zM g wz none) 0 0 (zA zM g) := by
  refine mt_start (by decide) (Nat.le_of_ble_eq_true rfl) ?_
  intro p e s m args below meth c H locs ls X hr hl hH
  have hx := X.1
  have hb := X.2.1
  have hml := X.2.2.1
  have hown := X.2.2.2.1
  have ht := X.2.2.2.2.1
  have hl : lv_has ls 3 [(0, .ref (g.2.2 (k0)))] := hl
  unfold f_X10_layEdges at hF
  refine lv_iconst (v := (0 : Int32)) hx hb dX10_layEdges_0 (by decide) ?_
  refine lv_istore_n (lv' := [(1, .int ((0 : Int32))), (0, .ref (g.2.2 (k0)))]) hx hb dX10_layEdges_1 rfl hl (by decide) rfl (fun ls hl => ?_)
  obtain ⟨r2, hLr2, hF⟩ := ob hF
  have Jr2 : ∀ (H : Heap) (locs : List Loc) (ls : Array Slot), HW zM g r2 s.heap H locs → lv_has ls 3 [(0, .ref (g.2.2 (k0)))] → W p l e (rmd 2) s m args below meth c H locs 0 0 (MQ below (Qw zM g wz none) args s 0 0 (zA zM g)) (F0 m 21 ls []) := by
    intro H locs ls hH hl
    refine lv_iconst (v := (0 : Int32)) hx hb dX10_layEdges_21 (by decide) ?_
    refine lv_istore_n (lv' := [(1, .int ((0 : Int32))), (0, .ref (g.2.2 (k0)))]) hx hb dX10_layEdges_22 rfl hl (by decide) rfl (fun ls hl => ?_)
    obtain ⟨r6, hLr6, hF⟩ := ob hF
    have Jr6 : ∀ (H : Heap) (locs : List Loc) (ls : Array Slot), HW zM g r6 s.heap H locs → lv_has ls 3 [(0, .ref (g.2.2 (k0)))] → W p l e (rmd 2) s m args below meth c H locs 0 0 (MQ below (Qw zM g wz none) args s 0 0 (zA zM g)) (F0 m 243 ls []) := by
      intro H locs ls hH hl
      obtain rfl := se1 hF
      exact w_vret X hH hr dX10_layEdges_243
    have Lr6 : ∀ (n : Nat) (s5 : Int32 × Wd), lp (b_X10_layEdges_2 k0) n s5 = some r6 → ∀ (H : Heap) (locs : List Loc) (ls : Array Slot), HW zM g s5.2 s.heap H locs → lv_has ls 3 [(0, .ref (g.2.2 (k0))), (1, .int (s5.1))] → W p l e (rmd 2) s m args below meth c H locs 0 0 (MQ below (Qw zM g wz none) args s 0 0 (zA zM g)) (F0 m 23 ls []) := by
      intro n
      induction n with
      | zero => intro s5 hL; exact lp_0 hL
      | succ n ih =>
        intro s5 hL H locs ls hH hl
        obtain ⟨bb, hF, hL⟩ := lp_s hL
        unfold b_X10_layEdges_2 at hF
        refine lv_iload_n hx hb dX10_layEdges_23 rfl (lv_at hl 1 rfl) ?_
        refine lv_aload_n hx hb dX10_layEdges_24 rfl (lv_at hl 0 rfl) ?_
        refine w_getr X hH hk0 fs_10_18 lk_10_39 dX10_layEdges_25 ?_
        refine lv_iconst (v := (0 : Int32)) hx hb dX10_layEdges_28 (by decide) ?_
        obtain ⟨x7, h7, hF⟩ := ob hF
        refine w_iald X hH h7 (rt_M_10_18 hk0) dX10_layEdges_29 ?_
        refine w_ilt_f (tgt := 243) hx hb dX10_layEdges_30 (by decide) (fun c8 => ?_) (fun c8 => ?_)
        · replace hF := ifn c8 hF
          obtain rfl := se1 hF
          subst hL
          exact Jr6 _ _ _ hH (lv_sub hl [0] rfl)
        · replace hF := ifp c8 hF
          refine lv_aload_n hx hb dX10_layEdges_33 rfl (lv_at hl 0 rfl) ?_
          refine lv_iload_n hx hb dX10_layEdges_34 rfl (lv_at hl 1 rfl) ?_
          obtain ⟨x9, h9, hF⟩ := ob hF
          refine w_callV (As := [.int (s5.1)]) (k := k0) (rest := []) (st1 := [.int (bI (x9))]) X hH (c_X10_isEnabled (l := l) (g := g) (w := s5.2) (k0 := k0) (v_c := s5.1) h9 hk0) (Or.inl tw_5_37) ms_X10_isEnabled im_X10_isEnabled hk0 cn_10 ⟨Nat.le_of_ble_eq_true rfl, Nat.le_of_ble_eq_true rfl⟩ rfl rfl hl.1 (Nat.le_of_ble_eq_true rfl) dX10_layEdges_35 ⟨Nat.le_refl _, Nat.le_refl _⟩ rfl (fun H locs hH => ?_)
          refine w_b_t (tgt := 44) hx hb dX10_layEdges_38 (by decide) (fun c10 => ?_) (fun c10 => ?_)
          · replace hF := ifn (fun z => z c10) hF
            obtain ⟨s11, hs11, hF⟩ := ob hF
            have Js11 : ∀ (H : Heap) (locs : List Loc) (ls : Array Slot), HW zM g s11 s.heap H locs → lv_has ls 3 [(0, .ref (g.2.2 (k0))), (1, .int (s5.1))] → W p l e (rmd 2) s m args below meth c H locs 0 0 (MQ below (Qw zM g wz none) args s 0 0 (zA zM g)) (F0 m 67 ls []) := by
              intro H locs ls hH hl
              refine lv_iconst (v := (0 : Int32)) hx hb dX10_layEdges_67 (by decide) ?_
              refine lv_istore_n (lv' := [(2, .int ((0 : Int32))), (0, .ref (g.2.2 (k0))), (1, .int (s5.1))]) hx hb dX10_layEdges_68 rfl hl (by decide) rfl (fun ls hl => ?_)
              obtain ⟨r18, hLr18, hF⟩ := ob hF
              have Jr18 : ∀ (H : Heap) (locs : List Loc) (ls : Array Slot), HW zM g r18 s.heap H locs → lv_has ls 3 [(0, .ref (g.2.2 (k0))), (1, .int (s5.1))] → W p l e (rmd 2) s m args below meth c H locs 0 0 (MQ below (Qw zM g wz none) args s 0 0 (zA zM g)) (F0 m 237 ls []) := by
                intro H locs ls hH hl
                refine lv_iinc (v := (s5.1 + (1 : Int32))) (lv' := [(1, .int ((s5.1 + (1 : Int32)))), (0, .ref (g.2.2 (k0)))]) hx hb dX10_layEdges_237 hl (k := 1) rfl rfl (by decide) rfl (fun ls hl => ?_)
                refine lv_goto (tgt := 23) hx hb dX10_layEdges_240 (by decide) ?_
                obtain rfl := se1 hF
                exact ih _ hL _ _ _ hH (lv_sub hl [1, 0] rfl)
              have Lr18 : ∀ (n : Nat) (s17 : Int32 × Wd), lp (b_X10_layEdges_3 k0 s5) n s17 = some r18 → ∀ (H : Heap) (locs : List Loc) (ls : Array Slot), HW zM g s17.2 s.heap H locs → lv_has ls 3 [(0, .ref (g.2.2 (k0))), (1, .int (s5.1)), (2, .int (s17.1))] → W p l e (rmd 2) s m args below meth c H locs 0 0 (MQ below (Qw zM g wz none) args s 0 0 (zA zM g)) (F0 m 69 ls []) := by
                intro n
                induction n with
                | zero => intro s17 hL; exact lp_0 hL
                | succ n ih =>
                  intro s17 hL H locs ls hH hl
                  obtain ⟨bb, hF, hL⟩ := lp_s hL
                  unfold b_X10_layEdges_3 at hF
                  refine lv_iload_n hx hb dX10_layEdges_69 rfl (lv_at hl 2 rfl) ?_
                  refine lv_aload_n hx hb dX10_layEdges_70 rfl (lv_at hl 0 rfl) ?_
                  refine w_getr X hH hk0 fs_10_11 lk_10_17 dX10_layEdges_71 ?_
                  refine lv_iconst (v := (0 : Int32)) hx hb dX10_layEdges_74 (by decide) ?_
                  obtain ⟨x19, h19, hF⟩ := ob hF
                  refine w_iald X hH h19 (rt_M_10_11 hk0) dX10_layEdges_75 ?_
                  refine w_ilt_f (tgt := 237) hx hb dX10_layEdges_76 (by decide) (fun c20 => ?_) (fun c20 => ?_)
                  · replace hF := ifn c20 hF
                    obtain rfl := se1 hF
                    subst hL
                    exact Jr18 _ _ _ hH (lv_sub hl [0, 1] rfl)
                  · replace hF := ifp c20 hF
                    obtain ⟨s21, hs21, hF⟩ := ob hF
                    have Js21 : ∀ (H : Heap) (locs : List Loc) (ls : Array Slot), HW zM g s21 s.heap H locs → lv_has ls 3 [(0, .ref (g.2.2 (k0))), (1, .int (s5.1)), (2, .int (s17.1))] → W p l e (rmd 2) s m args below meth c H locs 0 0 (MQ below (Qw zM g wz none) args s 0 0 (zA zM g)) (F0 m 123 ls []) := by
                      intro H locs ls hH hl
                      obtain ⟨s31, hs31, hF⟩ := ob hF
                      have Js31 : ∀ (H : Heap) (locs : List Loc) (ls : Array Slot), HW zM g s31 s.heap H locs → lv_has ls 3 [(0, .ref (g.2.2 (k0))), (1, .int (s5.1)), (2, .int (s17.1))] → W p l e (rmd 2) s m args below meth c H locs 0 0 (MQ below (Qw zM g wz none) args s 0 0 (zA zM g)) (F0 m 167 ls []) := by
                        intro H locs ls hH hl
                        obtain ⟨s41, hs41, hF⟩ := ob hF
                        have Js41 : ∀ (H : Heap) (locs : List Loc) (ls : Array Slot), HW zM g s41 s.heap H locs → lv_has ls 3 [(0, .ref (g.2.2 (k0))), (1, .int (s5.1)), (2, .int (s17.1))] → W p l e (rmd 2) s m args below meth c H locs 0 0 (MQ below (Qw zM g wz none) args s 0 0 (zA zM g)) (F0 m 231 ls []) := by
                          intro H locs ls hH hl
                          refine lv_iinc (v := (s17.1 + (1 : Int32))) (lv' := [(2, .int ((s17.1 + (1 : Int32)))), (0, .ref (g.2.2 (k0))), (1, .int (s5.1))]) hx hb dX10_layEdges_231 hl (k := 2) rfl rfl (by decide) rfl (fun ls hl => ?_)
                          refine lv_goto (tgt := 69) hx hb dX10_layEdges_234 (by decide) ?_
                          obtain rfl := se1 hF
                          exact ih _ hL _ _ _ hH (lv_sub hl [1, 2, 0] rfl)
                        have hF := hs41
                        obtain ⟨b42, hb42, hF⟩ := ob hF
                        have Jb42T : b42 = true → ∀ (H : Heap) (locs : List Loc), HW zM g s31 s.heap H locs → W p l e (rmd 2) s m args below meth c H locs 0 0 (MQ below (Qw zM g wz none) args s 0 0 (zA zM g)) (F0 m 201 ls []) := by
                          intro hc H locs hH
                          replace hF := ifp hc hF
                          refine lv_aload_n hx hb dX10_layEdges_201 rfl (lv_at hl 0 rfl) ?_
                          refine lv_aload_n hx hb dX10_layEdges_202 rfl (lv_at hl 0 rfl) ?_
                          refine lv_iload_n hx hb dX10_layEdges_203 rfl (lv_at hl 1 rfl) ?_
                          obtain ⟨x50, h50, hF⟩ := ob hF
                          refine w_callV (As := [.int (s5.1)]) (k := k0) (rest := [.ref (g.2.2 (k0))]) (st1 := [.int (x50), .ref (g.2.2 (k0))]) X hH (c_X10_third (l := l) (g := g) (w := s31) (k0 := k0) (v_c := s5.1) h50 hk0) (Or.inl tw_5_64) ms_X10_third im_X10_third hk0 cn_10 ⟨Nat.le_of_ble_eq_true rfl, Nat.le_of_ble_eq_true rfl⟩ rfl rfl hl.1 (Nat.le_of_ble_eq_true rfl) dX10_layEdges_204 ⟨Nat.le_refl _, Nat.le_refl _⟩ rfl (fun H locs hH => ?_)
                          refine lv_aload_n hx hb dX10_layEdges_207 rfl (lv_at hl 0 rfl) ?_
                          refine w_getr X hH hk0 fs_10_16 lk_10_33 dX10_layEdges_208 ?_
                          refine lv_iload_n hx hb dX10_layEdges_211 rfl (lv_at hl 2 rfl) ?_
                          obtain ⟨x51, h51, hF⟩ := ob hF
                          refine w_iald X hH h51 (rt_M_10_16 hk0) dX10_layEdges_212 ?_
                          obtain ⟨w52, h52, hF⟩ := ob hF
                          refine w_callV (As := [.int (x50), .int (x51)]) (k := k0) (rest := []) (st1 := []) X hH (c_X10_edge (l := l) (g := g) (w := s31) (k0 := k0) (v_from := x50) (v_to := x51) h52 hk0) (Or.inl tw_7_43) ms_X10_edge im_X10_edge hk0 cn_10 ⟨Nat.le_of_ble_eq_true rfl, Nat.le_of_ble_eq_true rfl⟩ rfl rfl hl.1 (Nat.le_of_ble_eq_true rfl) dX10_layEdges_213 ⟨Nat.le_refl _, Nat.le_refl _⟩ rfl (fun H locs hH => ?_)
                          refine lv_aload_n hx hb dX10_layEdges_216 rfl (lv_at hl 0 rfl) ?_
                          refine lv_aload_n hx hb dX10_layEdges_217 rfl (lv_at hl 0 rfl) ?_
                          refine w_getr X hH hk0 fs_10_17 lk_10_36 dX10_layEdges_218 ?_
                          refine lv_iload_n hx hb dX10_layEdges_221 rfl (lv_at hl 2 rfl) ?_
                          obtain ⟨x53, h53, hF⟩ := ob hF
                          refine w_iald X hH h53 (rt_M_10_17 hk0) dX10_layEdges_222 ?_
                          refine lv_aload_n hx hb dX10_layEdges_223 rfl (lv_at hl 0 rfl) ?_
                          refine lv_iload_n hx hb dX10_layEdges_224 rfl (lv_at hl 1 rfl) ?_
                          obtain ⟨x54, h54, hF⟩ := ob hF
                          refine w_callV (As := [.int (s5.1)]) (k := k0) (rest := [.int (x53), .ref (g.2.2 (k0))]) (st1 := [.int (x54), .int (x53), .ref (g.2.2 (k0))]) X hH (c_X10_first (l := l) (g := g) (w := w52) (k0 := k0) (v_c := s5.1) h54 hk0) (Or.inl tw_5_52) ms_X10_first im_X10_first hk0 cn_10 ⟨Nat.le_of_ble_eq_true rfl, Nat.le_of_ble_eq_true rfl⟩ rfl rfl hl.1 (Nat.le_of_ble_eq_true rfl) dX10_layEdges_225 ⟨Nat.le_refl _, Nat.le_refl _⟩ rfl (fun H locs hH => ?_)
                          obtain ⟨w55, h55, hF⟩ := ob hF
                          refine w_callV (As := [.int (x53), .int (x54)]) (k := k0) (rest := []) (st1 := []) X hH (c_X10_edge (l := l) (g := g) (w := w52) (k0 := k0) (v_from := x53) (v_to := x54) h55 hk0) (Or.inl tw_7_43) ms_X10_edge im_X10_edge hk0 cn_10 ⟨Nat.le_of_ble_eq_true rfl, Nat.le_of_ble_eq_true rfl⟩ rfl rfl hl.1 (Nat.le_of_ble_eq_true rfl) dX10_layEdges_228 ⟨Nat.le_refl _, Nat.le_refl _⟩ rfl (fun H locs hH => ?_)
                          obtain rfl := se1 hF
                          exact Js41 _ _ _ hH (lv_sub hl [0, 1, 2] rfl)
                        have Jb42F : ¬ (b42 = true) → ∀ (H : Heap) (locs : List Loc), HW zM g s31 s.heap H locs → W p l e (rmd 2) s m args below meth c H locs 0 0 (MQ below (Qw zM g wz none) args s 0 0 (zA zM g)) (F0 m 231 ls []) := by
                          intro hc H locs hH
                          replace hF := ifn hc hF
                          obtain rfl := se1 hF
                          exact Js41 _ _ _ hH (lv_sub hl [0, 1, 2] rfl)
                        have hF := hb42
                        refine lv_aload_n hx hb dX10_layEdges_167 rfl (lv_at hl 0 rfl) ?_
                        refine lv_iload_n hx hb dX10_layEdges_168 rfl (lv_at hl 1 rfl) ?_
                        obtain ⟨x44, h44, hF⟩ := ob hF
                        refine w_callV (As := [.int (s5.1)]) (k := k0) (rest := []) (st1 := [.int (x44)]) X hH (c_X10_kind (l := l) (g := g) (w := s31) (k0 := k0) (v_c := s5.1) h44 hk0) (Or.inl tw_5_48) ms_X10_kind im_X10_kind hk0 cn_10 ⟨Nat.le_of_ble_eq_true rfl, Nat.le_of_ble_eq_true rfl⟩ rfl rfl hl.1 (Nat.le_of_ble_eq_true rfl) dX10_layEdges_169 ⟨Nat.le_refl _, Nat.le_refl _⟩ rfl (fun H locs hH => ?_)
                        refine lv_iconst (v := (4 : Int32)) hx hb dX10_layEdges_172 (by decide) ?_
                        refine w_ieq_f (tgt := 231) hx hb dX10_layEdges_173 (by decide) (fun c43 => ?_) (fun c43 => ?_)
                        · replace hF := ifn c43 hF
                          obtain rfl := se1 hF
                          exact Jb42F Bool.false_ne_true _ _ hH
                        · replace hF := ifp c43 hF
                          refine lv_aload_n hx hb dX10_layEdges_176 rfl (lv_at hl 0 rfl) ?_
                          refine w_getr X hH hk0 fs_10_24 lk_10_55 dX10_layEdges_177 ?_
                          refine lv_aload_n hx hb dX10_layEdges_180 rfl (lv_at hl 0 rfl) ?_
                          refine lv_iload_n hx hb dX10_layEdges_181 rfl (lv_at hl 1 rfl) ?_
                          obtain ⟨x46, h46, hF⟩ := ob hF
                          refine w_callV (As := [.int (s5.1)]) (k := k0) (rest := [.ref (g.2.2 ((zrf zM (k0) 24)))]) (st1 := [.int (x46), .ref (g.2.2 ((zrf zM (k0) 24)))]) X hH (c_X10_second (l := l) (g := g) (w := s31) (k0 := k0) (v_c := s5.1) h46 hk0) (Or.inl tw_5_56) ms_X10_second im_X10_second hk0 cn_10 ⟨Nat.le_of_ble_eq_true rfl, Nat.le_of_ble_eq_true rfl⟩ rfl rfl hl.1 (Nat.le_of_ble_eq_true rfl) dX10_layEdges_182 ⟨Nat.le_refl _, Nat.le_refl _⟩ rfl (fun H locs hH => ?_)
                          obtain ⟨x47, h47, hF⟩ := ob hF
                          refine w_iald X hH h47 (rt_M_10_24 hk0) dX10_layEdges_185 ?_
                          refine lv_iload_n hx hb dX10_layEdges_186 rfl (lv_at hl 2 rfl) ?_
                          refine w_callS (As := [.int (x47), .int (s17.1)]) (rest := []) (st1 := [.int (bI ((f_X10_has (x47) (s17.1))))]) X hH (c_X10_has (l := l) (g := g) (w := s31) (v_set := x47) (v_k := s17.1) rfl) (Or.inl tw_5_41) ms_X10_has tw_5_42 ⟨Nat.le_of_ble_eq_true rfl, Nat.le_of_ble_eq_true rfl⟩ rfl rfl hl.1 (Nat.le_of_ble_eq_true rfl) dX10_layEdges_187 ⟨Nat.le_refl _, Nat.le_refl _⟩ rfl (fun H locs hH => ?_)
                          refine w_b_f (tgt := 231) hx hb dX10_layEdges_190 (by decide) (fun c45 => ?_) (fun c45 => ?_)
                          · replace hF := ifn c45 hF
                            obtain rfl := se1 hF
                            exact Jb42F Bool.false_ne_true _ _ hH
                          · replace hF := ifp c45 hF
                            refine lv_aload_n hx hb dX10_layEdges_193 rfl (lv_at hl 0 rfl) ?_
                            refine lv_iload_n hx hb dX10_layEdges_194 rfl (lv_at hl 2 rfl) ?_
                            obtain ⟨x49, h49, hF⟩ := ob hF
                            refine w_callV (As := [.int (s17.1)]) (k := k0) (rest := []) (st1 := [.int (bI (x49))]) X hH (c_X10_isFunction (l := l) (g := g) (w := s31) (k0 := k0) (v_o := s17.1) h49 hk0) (Or.inl tw_5_71) ms_X10_isFunction im_X10_isFunction hk0 cn_10 ⟨Nat.le_of_ble_eq_true rfl, Nat.le_of_ble_eq_true rfl⟩ rfl rfl hl.1 (Nat.le_of_ble_eq_true rfl) dX10_layEdges_195 ⟨Nat.le_refl _, Nat.le_refl _⟩ rfl (fun H locs hH => ?_)
                            refine w_b_f (tgt := 231) hx hb dX10_layEdges_198 (by decide) (fun c48 => ?_) (fun c48 => ?_)
                            · replace hF := ifn c48 hF
                              obtain rfl := se1 hF
                              exact Jb42F Bool.false_ne_true _ _ hH
                            · replace hF := ifp c48 hF
                              obtain rfl := se1 hF
                              exact Jb42T rfl _ _ hH
                      have hF := hs31
                      obtain ⟨b32, hb32, hF⟩ := ob hF
                      have Jb32T : b32 = true → ∀ (H : Heap) (locs : List Loc), HW zM g s21 s.heap H locs → W p l e (rmd 2) s m args below meth c H locs 0 0 (MQ below (Qw zM g wz none) args s 0 0 (zA zM g)) (F0 m 149 ls []) := by
                        intro hc H locs hH
                        replace hF := ifp hc hF
                        refine lv_aload_n hx hb dX10_layEdges_149 rfl (lv_at hl 0 rfl) ?_
                        refine lv_aload_n hx hb dX10_layEdges_150 rfl (lv_at hl 0 rfl) ?_
                        refine lv_iload_n hx hb dX10_layEdges_151 rfl (lv_at hl 1 rfl) ?_
                        obtain ⟨x38, h38, hF⟩ := ob hF
                        refine w_callV (As := [.int (s5.1)]) (k := k0) (rest := [.ref (g.2.2 (k0))]) (st1 := [.int (x38), .ref (g.2.2 (k0))]) X hH (c_X10_third (l := l) (g := g) (w := s21) (k0 := k0) (v_c := s5.1) h38 hk0) (Or.inl tw_5_64) ms_X10_third im_X10_third hk0 cn_10 ⟨Nat.le_of_ble_eq_true rfl, Nat.le_of_ble_eq_true rfl⟩ rfl rfl hl.1 (Nat.le_of_ble_eq_true rfl) dX10_layEdges_152 ⟨Nat.le_refl _, Nat.le_refl _⟩ rfl (fun H locs hH => ?_)
                        refine lv_iload_n hx hb dX10_layEdges_155 rfl (lv_at hl 2 rfl) ?_
                        refine lv_aload_n hx hb dX10_layEdges_156 rfl (lv_at hl 0 rfl) ?_
                        refine lv_iload_n hx hb dX10_layEdges_157 rfl (lv_at hl 1 rfl) ?_
                        obtain ⟨x39, h39, hF⟩ := ob hF
                        refine w_callV (As := [.int (s5.1)]) (k := k0) (rest := [.int (s17.1), .int (x38), .ref (g.2.2 (k0))]) (st1 := [.int (x39), .int (s17.1), .int (x38), .ref (g.2.2 (k0))]) X hH (c_X10_second (l := l) (g := g) (w := s21) (k0 := k0) (v_c := s5.1) h39 hk0) (Or.inl tw_5_56) ms_X10_second im_X10_second hk0 cn_10 ⟨Nat.le_of_ble_eq_true rfl, Nat.le_of_ble_eq_true rfl⟩ rfl rfl hl.1 (Nat.le_of_ble_eq_true rfl) dX10_layEdges_158 ⟨Nat.le_refl _, Nat.le_refl _⟩ rfl (fun H locs hH => ?_)
                        refine w_callS (As := [.int (s17.1), .int (x39)]) (rest := [.int (x38), .ref (g.2.2 (k0))]) (st1 := [.int ((f_X10_fieldIndex (s17.1) (x39))), .int (x38), .ref (g.2.2 (k0))]) X hH (c_X10_fieldIndex (l := l) (g := g) (w := s21) (v_o := s17.1) (v_f := x39) rfl) (Or.inl tw_5_68) ms_X10_fieldIndex tw_5_69 ⟨Nat.le_of_ble_eq_true rfl, Nat.le_of_ble_eq_true rfl⟩ rfl rfl hl.1 (Nat.le_of_ble_eq_true rfl) dX10_layEdges_161 ⟨Nat.le_refl _, Nat.le_refl _⟩ rfl (fun H locs hH => ?_)
                        obtain ⟨w40, h40, hF⟩ := ob hF
                        refine w_callV (As := [.int (x38), .int ((f_X10_fieldIndex (s17.1) (x39)))]) (k := k0) (rest := []) (st1 := []) X hH (c_X10_edge (l := l) (g := g) (w := s21) (k0 := k0) (v_from := x38) (v_to := (f_X10_fieldIndex (s17.1) (x39))) h40 hk0) (Or.inl tw_7_43) ms_X10_edge im_X10_edge hk0 cn_10 ⟨Nat.le_of_ble_eq_true rfl, Nat.le_of_ble_eq_true rfl⟩ rfl rfl hl.1 (Nat.le_of_ble_eq_true rfl) dX10_layEdges_164 ⟨Nat.le_refl _, Nat.le_refl _⟩ rfl (fun H locs hH => ?_)
                        obtain rfl := se1 hF
                        exact Js31 _ _ _ hH (lv_sub hl [0, 1, 2] rfl)
                      have Jb32F : ¬ (b32 = true) → ∀ (H : Heap) (locs : List Loc), HW zM g s21 s.heap H locs → W p l e (rmd 2) s m args below meth c H locs 0 0 (MQ below (Qw zM g wz none) args s 0 0 (zA zM g)) (F0 m 167 ls []) := by
                        intro hc H locs hH
                        replace hF := ifn hc hF
                        obtain rfl := se1 hF
                        exact Js31 _ _ _ hH (lv_sub hl [0, 1, 2] rfl)
                      have hF := hb32
                      refine lv_aload_n hx hb dX10_layEdges_123 rfl (lv_at hl 0 rfl) ?_
                      refine lv_iload_n hx hb dX10_layEdges_124 rfl (lv_at hl 1 rfl) ?_
                      obtain ⟨x34, h34, hF⟩ := ob hF
                      refine w_callV (As := [.int (s5.1)]) (k := k0) (rest := []) (st1 := [.int (x34)]) X hH (c_X10_kind (l := l) (g := g) (w := s21) (k0 := k0) (v_c := s5.1) h34 hk0) (Or.inl tw_5_48) ms_X10_kind im_X10_kind hk0 cn_10 ⟨Nat.le_of_ble_eq_true rfl, Nat.le_of_ble_eq_true rfl⟩ rfl rfl hl.1 (Nat.le_of_ble_eq_true rfl) dX10_layEdges_125 ⟨Nat.le_refl _, Nat.le_refl _⟩ rfl (fun H locs hH => ?_)
                      refine lv_iconst (v := (3 : Int32)) hx hb dX10_layEdges_128 (by decide) ?_
                      refine w_ieq_f (tgt := 167) hx hb dX10_layEdges_129 (by decide) (fun c33 => ?_) (fun c33 => ?_)
                      · replace hF := ifn c33 hF
                        obtain rfl := se1 hF
                        exact Jb32F Bool.false_ne_true _ _ hH
                      · replace hF := ifp c33 hF
                        refine lv_aload_n hx hb dX10_layEdges_132 rfl (lv_at hl 0 rfl) ?_
                        refine w_getr X hH hk0 fs_10_24 lk_10_55 dX10_layEdges_133 ?_
                        refine lv_aload_n hx hb dX10_layEdges_136 rfl (lv_at hl 0 rfl) ?_
                        refine lv_iload_n hx hb dX10_layEdges_137 rfl (lv_at hl 1 rfl) ?_
                        obtain ⟨x36, h36, hF⟩ := ob hF
                        refine w_callV (As := [.int (s5.1)]) (k := k0) (rest := [.ref (g.2.2 ((zrf zM (k0) 24)))]) (st1 := [.int (x36), .ref (g.2.2 ((zrf zM (k0) 24)))]) X hH (c_X10_first (l := l) (g := g) (w := s21) (k0 := k0) (v_c := s5.1) h36 hk0) (Or.inl tw_5_52) ms_X10_first im_X10_first hk0 cn_10 ⟨Nat.le_of_ble_eq_true rfl, Nat.le_of_ble_eq_true rfl⟩ rfl rfl hl.1 (Nat.le_of_ble_eq_true rfl) dX10_layEdges_138 ⟨Nat.le_refl _, Nat.le_refl _⟩ rfl (fun H locs hH => ?_)
                        obtain ⟨x37, h37, hF⟩ := ob hF
                        refine w_iald X hH h37 (rt_M_10_24 hk0) dX10_layEdges_141 ?_
                        refine lv_iload_n hx hb dX10_layEdges_142 rfl (lv_at hl 2 rfl) ?_
                        refine w_callS (As := [.int (x37), .int (s17.1)]) (rest := []) (st1 := [.int (bI ((f_X10_has (x37) (s17.1))))]) X hH (c_X10_has (l := l) (g := g) (w := s21) (v_set := x37) (v_k := s17.1) rfl) (Or.inl tw_5_41) ms_X10_has tw_5_42 ⟨Nat.le_of_ble_eq_true rfl, Nat.le_of_ble_eq_true rfl⟩ rfl rfl hl.1 (Nat.le_of_ble_eq_true rfl) dX10_layEdges_143 ⟨Nat.le_refl _, Nat.le_refl _⟩ rfl (fun H locs hH => ?_)
                        refine w_b_f (tgt := 167) hx hb dX10_layEdges_146 (by decide) (fun c35 => ?_) (fun c35 => ?_)
                        · replace hF := ifn c35 hF
                          obtain rfl := se1 hF
                          exact Jb32F Bool.false_ne_true _ _ hH
                        · replace hF := ifp c35 hF
                          obtain rfl := se1 hF
                          exact Jb32T rfl _ _ hH
                    have hF := hs21
                    obtain ⟨b22, hb22, hF⟩ := ob hF
                    have Jb22T : b22 = true → ∀ (H : Heap) (locs : List Loc), HW zM g s17.2 s.heap H locs → W p l e (rmd 2) s m args below meth c H locs 0 0 (MQ below (Qw zM g wz none) args s 0 0 (zA zM g)) (F0 m 105 ls []) := by
                      intro hc H locs hH
                      replace hF := ifp hc hF
                      refine lv_aload_n hx hb dX10_layEdges_105 rfl (lv_at hl 0 rfl) ?_
                      refine lv_iload_n hx hb dX10_layEdges_106 rfl (lv_at hl 2 rfl) ?_
                      refine lv_aload_n hx hb dX10_layEdges_107 rfl (lv_at hl 0 rfl) ?_
                      refine lv_iload_n hx hb dX10_layEdges_108 rfl (lv_at hl 1 rfl) ?_
                      obtain ⟨x28, h28, hF⟩ := ob hF
                      refine w_callV (As := [.int (s5.1)]) (k := k0) (rest := [.int (s17.1), .ref (g.2.2 (k0))]) (st1 := [.int (x28), .int (s17.1), .ref (g.2.2 (k0))]) X hH (c_X10_third (l := l) (g := g) (w := s17.2) (k0 := k0) (v_c := s5.1) h28 hk0) (Or.inl tw_5_64) ms_X10_third im_X10_third hk0 cn_10 ⟨Nat.le_of_ble_eq_true rfl, Nat.le_of_ble_eq_true rfl⟩ rfl rfl hl.1 (Nat.le_of_ble_eq_true rfl) dX10_layEdges_109 ⟨Nat.le_refl _, Nat.le_refl _⟩ rfl (fun H locs hH => ?_)
                      refine w_callS (As := [.int (s17.1), .int (x28)]) (rest := [.ref (g.2.2 (k0))]) (st1 := [.int ((f_X10_fieldIndex (s17.1) (x28))), .ref (g.2.2 (k0))]) X hH (c_X10_fieldIndex (l := l) (g := g) (w := s17.2) (v_o := s17.1) (v_f := x28) rfl) (Or.inl tw_5_68) ms_X10_fieldIndex tw_5_69 ⟨Nat.le_of_ble_eq_true rfl, Nat.le_of_ble_eq_true rfl⟩ rfl rfl hl.1 (Nat.le_of_ble_eq_true rfl) dX10_layEdges_112 ⟨Nat.le_refl _, Nat.le_refl _⟩ rfl (fun H locs hH => ?_)
                      refine lv_aload_n hx hb dX10_layEdges_115 rfl (lv_at hl 0 rfl) ?_
                      refine lv_iload_n hx hb dX10_layEdges_116 rfl (lv_at hl 1 rfl) ?_
                      obtain ⟨x29, h29, hF⟩ := ob hF
                      refine w_callV (As := [.int (s5.1)]) (k := k0) (rest := [.int ((f_X10_fieldIndex (s17.1) (x28))), .ref (g.2.2 (k0))]) (st1 := [.int (x29), .int ((f_X10_fieldIndex (s17.1) (x28))), .ref (g.2.2 (k0))]) X hH (c_X10_first (l := l) (g := g) (w := s17.2) (k0 := k0) (v_c := s5.1) h29 hk0) (Or.inl tw_5_52) ms_X10_first im_X10_first hk0 cn_10 ⟨Nat.le_of_ble_eq_true rfl, Nat.le_of_ble_eq_true rfl⟩ rfl rfl hl.1 (Nat.le_of_ble_eq_true rfl) dX10_layEdges_117 ⟨Nat.le_refl _, Nat.le_refl _⟩ rfl (fun H locs hH => ?_)
                      obtain ⟨w30, h30, hF⟩ := ob hF
                      refine w_callV (As := [.int ((f_X10_fieldIndex (s17.1) (x28))), .int (x29)]) (k := k0) (rest := []) (st1 := []) X hH (c_X10_edge (l := l) (g := g) (w := s17.2) (k0 := k0) (v_from := (f_X10_fieldIndex (s17.1) (x28))) (v_to := x29) h30 hk0) (Or.inl tw_7_43) ms_X10_edge im_X10_edge hk0 cn_10 ⟨Nat.le_of_ble_eq_true rfl, Nat.le_of_ble_eq_true rfl⟩ rfl rfl hl.1 (Nat.le_of_ble_eq_true rfl) dX10_layEdges_120 ⟨Nat.le_refl _, Nat.le_refl _⟩ rfl (fun H locs hH => ?_)
                      obtain rfl := se1 hF
                      exact Js21 _ _ _ hH (lv_sub hl [0, 1, 2] rfl)
                    have Jb22F : ¬ (b22 = true) → ∀ (H : Heap) (locs : List Loc), HW zM g s17.2 s.heap H locs → W p l e (rmd 2) s m args below meth c H locs 0 0 (MQ below (Qw zM g wz none) args s 0 0 (zA zM g)) (F0 m 123 ls []) := by
                      intro hc H locs hH
                      replace hF := ifn hc hF
                      obtain rfl := se1 hF
                      exact Js21 _ _ _ hH (lv_sub hl [0, 1, 2] rfl)
                    have hF := hb22
                    refine lv_aload_n hx hb dX10_layEdges_79 rfl (lv_at hl 0 rfl) ?_
                    refine lv_iload_n hx hb dX10_layEdges_80 rfl (lv_at hl 1 rfl) ?_
                    obtain ⟨x24, h24, hF⟩ := ob hF
                    refine w_callV (As := [.int (s5.1)]) (k := k0) (rest := []) (st1 := [.int (x24)]) X hH (c_X10_kind (l := l) (g := g) (w := s17.2) (k0 := k0) (v_c := s5.1) h24 hk0) (Or.inl tw_5_48) ms_X10_kind im_X10_kind hk0 cn_10 ⟨Nat.le_of_ble_eq_true rfl, Nat.le_of_ble_eq_true rfl⟩ rfl rfl hl.1 (Nat.le_of_ble_eq_true rfl) dX10_layEdges_81 ⟨Nat.le_refl _, Nat.le_refl _⟩ rfl (fun H locs hH => ?_)
                    refine lv_iconst (v := (2 : Int32)) hx hb dX10_layEdges_84 (by decide) ?_
                    refine w_ieq_f (tgt := 123) hx hb dX10_layEdges_85 (by decide) (fun c23 => ?_) (fun c23 => ?_)
                    · replace hF := ifn c23 hF
                      obtain rfl := se1 hF
                      exact Jb22F Bool.false_ne_true _ _ hH
                    · replace hF := ifp c23 hF
                      refine lv_aload_n hx hb dX10_layEdges_88 rfl (lv_at hl 0 rfl) ?_
                      refine w_getr X hH hk0 fs_10_24 lk_10_55 dX10_layEdges_89 ?_
                      refine lv_aload_n hx hb dX10_layEdges_92 rfl (lv_at hl 0 rfl) ?_
                      refine lv_iload_n hx hb dX10_layEdges_93 rfl (lv_at hl 1 rfl) ?_
                      obtain ⟨x26, h26, hF⟩ := ob hF
                      refine w_callV (As := [.int (s5.1)]) (k := k0) (rest := [.ref (g.2.2 ((zrf zM (k0) 24)))]) (st1 := [.int (x26), .ref (g.2.2 ((zrf zM (k0) 24)))]) X hH (c_X10_second (l := l) (g := g) (w := s17.2) (k0 := k0) (v_c := s5.1) h26 hk0) (Or.inl tw_5_56) ms_X10_second im_X10_second hk0 cn_10 ⟨Nat.le_of_ble_eq_true rfl, Nat.le_of_ble_eq_true rfl⟩ rfl rfl hl.1 (Nat.le_of_ble_eq_true rfl) dX10_layEdges_94 ⟨Nat.le_refl _, Nat.le_refl _⟩ rfl (fun H locs hH => ?_)
                      obtain ⟨x27, h27, hF⟩ := ob hF
                      refine w_iald X hH h27 (rt_M_10_24 hk0) dX10_layEdges_97 ?_
                      refine lv_iload_n hx hb dX10_layEdges_98 rfl (lv_at hl 2 rfl) ?_
                      refine w_callS (As := [.int (x27), .int (s17.1)]) (rest := []) (st1 := [.int (bI ((f_X10_has (x27) (s17.1))))]) X hH (c_X10_has (l := l) (g := g) (w := s17.2) (v_set := x27) (v_k := s17.1) rfl) (Or.inl tw_5_41) ms_X10_has tw_5_42 ⟨Nat.le_of_ble_eq_true rfl, Nat.le_of_ble_eq_true rfl⟩ rfl rfl hl.1 (Nat.le_of_ble_eq_true rfl) dX10_layEdges_99 ⟨Nat.le_refl _, Nat.le_refl _⟩ rfl (fun H locs hH => ?_)
                      refine w_b_f (tgt := 123) hx hb dX10_layEdges_102 (by decide) (fun c25 => ?_) (fun c25 => ?_)
                      · replace hF := ifn c25 hF
                        obtain rfl := se1 hF
                        exact Jb22F Bool.false_ne_true _ _ hH
                      · replace hF := ifp c25 hF
                        obtain rfl := se1 hF
                        exact Jb22T rfl _ _ hH
              exact Lr18 NF _ hLr18 _ _ _ hH (lv_sub hl [1, 2, 0] rfl)
            have hF := hs11
            refine lv_aload_n hx hb dX10_layEdges_44 rfl (lv_at hl 0 rfl) ?_
            refine lv_iload_n hx hb dX10_layEdges_45 rfl (lv_at hl 1 rfl) ?_
            obtain ⟨x12, h12, hF⟩ := ob hF
            refine w_callV (As := [.int (s5.1)]) (k := k0) (rest := []) (st1 := [.int (x12)]) X hH (c_X10_kind (l := l) (g := g) (w := s5.2) (k0 := k0) (v_c := s5.1) h12 hk0) (Or.inl tw_5_48) ms_X10_kind im_X10_kind hk0 cn_10 ⟨Nat.le_of_ble_eq_true rfl, Nat.le_of_ble_eq_true rfl⟩ rfl rfl hl.1 (Nat.le_of_ble_eq_true rfl) dX10_layEdges_46 ⟨Nat.le_refl _, Nat.le_refl _⟩ rfl (fun H locs hH => ?_)
            refine lv_iconst (v := (1 : Int32)) hx hb dX10_layEdges_49 (by decide) ?_
            refine w_ieq_f (tgt := 67) hx hb dX10_layEdges_50 (by decide) (fun c13 => ?_) (fun c13 => ?_)
            · replace hF := ifn c13 hF
              obtain rfl := se1 hF
              exact Js11 _ _ _ hH (lv_sub hl [0, 1] rfl)
            · replace hF := ifp c13 hF
              refine lv_aload_n hx hb dX10_layEdges_53 rfl (lv_at hl 0 rfl) ?_
              refine lv_aload_n hx hb dX10_layEdges_54 rfl (lv_at hl 0 rfl) ?_
              refine lv_iload_n hx hb dX10_layEdges_55 rfl (lv_at hl 1 rfl) ?_
              obtain ⟨x14, h14, hF⟩ := ob hF
              refine w_callV (As := [.int (s5.1)]) (k := k0) (rest := [.ref (g.2.2 (k0))]) (st1 := [.int (x14), .ref (g.2.2 (k0))]) X hH (c_X10_second (l := l) (g := g) (w := s5.2) (k0 := k0) (v_c := s5.1) h14 hk0) (Or.inl tw_5_56) ms_X10_second im_X10_second hk0 cn_10 ⟨Nat.le_of_ble_eq_true rfl, Nat.le_of_ble_eq_true rfl⟩ rfl rfl hl.1 (Nat.le_of_ble_eq_true rfl) dX10_layEdges_56 ⟨Nat.le_refl _, Nat.le_refl _⟩ rfl (fun H locs hH => ?_)
              refine lv_aload_n hx hb dX10_layEdges_59 rfl (lv_at hl 0 rfl) ?_
              refine lv_iload_n hx hb dX10_layEdges_60 rfl (lv_at hl 1 rfl) ?_
              obtain ⟨x15, h15, hF⟩ := ob hF
              refine w_callV (As := [.int (s5.1)]) (k := k0) (rest := [.int (x14), .ref (g.2.2 (k0))]) (st1 := [.int (x15), .int (x14), .ref (g.2.2 (k0))]) X hH (c_X10_first (l := l) (g := g) (w := s5.2) (k0 := k0) (v_c := s5.1) h15 hk0) (Or.inl tw_5_52) ms_X10_first im_X10_first hk0 cn_10 ⟨Nat.le_of_ble_eq_true rfl, Nat.le_of_ble_eq_true rfl⟩ rfl rfl hl.1 (Nat.le_of_ble_eq_true rfl) dX10_layEdges_61 ⟨Nat.le_refl _, Nat.le_refl _⟩ rfl (fun H locs hH => ?_)
              obtain ⟨w16, h16, hF⟩ := ob hF
              refine w_callV (As := [.int (x14), .int (x15)]) (k := k0) (rest := []) (st1 := []) X hH (c_X10_edge (l := l) (g := g) (w := s5.2) (k0 := k0) (v_from := x14) (v_to := x15) h16 hk0) (Or.inl tw_7_43) ms_X10_edge im_X10_edge hk0 cn_10 ⟨Nat.le_of_ble_eq_true rfl, Nat.le_of_ble_eq_true rfl⟩ rfl rfl hl.1 (Nat.le_of_ble_eq_true rfl) dX10_layEdges_64 ⟨Nat.le_refl _, Nat.le_refl _⟩ rfl (fun H locs hH => ?_)
              obtain rfl := se1 hF
              exact Js11 _ _ _ hH (lv_sub hl [0, 1] rfl)
          · replace hF := ifp c10 hF
            refine lv_goto (tgt := 237) hx hb dX10_layEdges_41 (by decide) ?_
            refine lv_iinc (v := (s5.1 + (1 : Int32))) (lv' := [(1, .int ((s5.1 + (1 : Int32)))), (0, .ref (g.2.2 (k0)))]) hx hb dX10_layEdges_237 hl (k := 1) rfl rfl (by decide) rfl (fun ls hl => ?_)
            refine lv_goto (tgt := 23) hx hb dX10_layEdges_240 (by decide) ?_
            obtain rfl := se1 hF
            exact ih _ hL _ _ _ hH (lv_sub hl [1, 0] rfl)
    exact Lr6 NF _ hLr6 _ _ _ hH (lv_sub hl [1, 0] rfl)
  have Lr2 : ∀ (n : Nat) (s1 : Int32 × Wd), lp (b_X10_layEdges_1 k0) n s1 = some r2 → ∀ (H : Heap) (locs : List Loc) (ls : Array Slot), HW zM g s1.2 s.heap H locs → lv_has ls 3 [(0, .ref (g.2.2 (k0))), (1, .int (s1.1))] → W p l e (rmd 2) s m args below meth c H locs 0 0 (MQ below (Qw zM g wz none) args s 0 0 (zA zM g)) (F0 m 2 ls []) := by
    intro n
    induction n with
    | zero => intro s1 hL; exact lp_0 hL
    | succ n ih =>
      intro s1 hL H locs ls hH hl
      obtain ⟨bb, hF, hL⟩ := lp_s hL
      unfold b_X10_layEdges_1 at hF
      refine lv_iload_n hx hb dX10_layEdges_2 rfl (lv_at hl 1 rfl) ?_
      refine lv_bipush (v := (56 : Int32)) hx hb dX10_layEdges_3 (by decide) ?_
      refine w_ilt_f (tgt := 21) hx hb dX10_layEdges_5 (by decide) (fun c3 => ?_) (fun c3 => ?_)
      · replace hF := ifn c3 hF
        obtain rfl := se1 hF
        subst hL
        exact Jr2 _ _ _ hH (lv_sub hl [0] rfl)
      · replace hF := ifp c3 hF
        refine lv_aload_n hx hb dX10_layEdges_8 rfl (lv_at hl 0 rfl) ?_
        refine w_getr X hH hk0 fs_10_37 lk_10_70 dX10_layEdges_9 ?_
        refine lv_iload_n hx hb dX10_layEdges_12 rfl (lv_at hl 1 rfl) ?_
        refine lv_lconst (v := 0) hx hb dX10_layEdges_13 (by decide) ?_
        obtain ⟨w4, h4, hF⟩ := ob hF
        refine w_last X hH h4 (rt_M_10_37 hk0) dX10_layEdges_14 (fun H locs hH => ?_)
        refine lv_iinc (v := (s1.1 + (1 : Int32))) (lv' := [(1, .int ((s1.1 + (1 : Int32)))), (0, .ref (g.2.2 (k0)))]) hx hb dX10_layEdges_15 hl (k := 1) rfl rfl (by decide) rfl (fun ls hl => ?_)
        refine lv_goto (tgt := 2) hx hb dX10_layEdges_18 (by decide) ?_
        obtain rfl := se1 hF
        exact ih _ hL _ _ _ hH (lv_sub hl [1, 0] rfl)
  exact Lr2 NF _ hLr2 _ _ _ hH (lv_sub hl [1, 0] rfl)

theorem dX10_layReach_0 : decode cX10_layReach 0 = .ok (.aload_n 0, 1) := by decide +kernel
theorem dX10_layReach_1 : decode cX10_layReach 1 = .ok (.invokevirtual 332, 3) := by decide +kernel
theorem dX10_layReach_4 : decode cX10_layReach 4 = .ok (.iconst 0, 1) := by decide +kernel
theorem dX10_layReach_5 : decode cX10_layReach 5 = .ok (.istore_n 1, 1) := by decide +kernel
theorem dX10_layReach_6 : decode cX10_layReach 6 = .ok (.iload_n 1, 1) := by decide +kernel
theorem dX10_layReach_7 : decode cX10_layReach 7 = .ok (.bipush 56, 2) := by decide +kernel
theorem dX10_layReach_9 : decode cX10_layReach 9 = .ok (.if_icmp .ge 25, 3) := by decide +kernel
theorem dX10_layReach_12 : decode cX10_layReach 12 = .ok (.aload_n 0, 1) := by decide +kernel
theorem dX10_layReach_13 : decode cX10_layReach 13 = .ok (.getfield 73, 3) := by decide +kernel
theorem dX10_layReach_16 : decode cX10_layReach 16 = .ok (.iload_n 1, 1) := by decide +kernel
theorem dX10_layReach_17 : decode cX10_layReach 17 = .ok (.aload_n 0, 1) := by decide +kernel
theorem dX10_layReach_18 : decode cX10_layReach 18 = .ok (.getfield 70, 3) := by decide +kernel
theorem dX10_layReach_21 : decode cX10_layReach 21 = .ok (.iload_n 1, 1) := by decide +kernel
theorem dX10_layReach_22 : decode cX10_layReach 22 = .ok (.laload, 1) := by decide +kernel
theorem dX10_layReach_23 : decode cX10_layReach 23 = .ok (.lconst 1, 1) := by decide +kernel
theorem dX10_layReach_24 : decode cX10_layReach 24 = .ok (.iload_n 1, 1) := by decide +kernel
theorem dX10_layReach_25 : decode cX10_layReach 25 = .ok (.lshl, 1) := by decide +kernel
theorem dX10_layReach_26 : decode cX10_layReach 26 = .ok (.lor, 1) := by decide +kernel
theorem dX10_layReach_27 : decode cX10_layReach 27 = .ok (.lastore, 1) := by decide +kernel
theorem dX10_layReach_28 : decode cX10_layReach 28 = .ok (.iinc 1 1, 3) := by decide +kernel
theorem dX10_layReach_31 : decode cX10_layReach 31 = .ok (.goto (-25), 3) := by decide +kernel
theorem dX10_layReach_34 : decode cX10_layReach 34 = .ok (.iconst 0, 1) := by decide +kernel
theorem dX10_layReach_35 : decode cX10_layReach 35 = .ok (.istore_n 1, 1) := by decide +kernel
theorem dX10_layReach_36 : decode cX10_layReach 36 = .ok (.iload_n 1, 1) := by decide +kernel
theorem dX10_layReach_37 : decode cX10_layReach 37 = .ok (.bipush 56, 2) := by decide +kernel
theorem dX10_layReach_39 : decode cX10_layReach 39 = .ok (.if_icmp .ge 51, 3) := by decide +kernel
theorem dX10_layReach_42 : decode cX10_layReach 42 = .ok (.iconst 0, 1) := by decide +kernel
theorem dX10_layReach_43 : decode cX10_layReach 43 = .ok (.istore_n 2, 1) := by decide +kernel
theorem dX10_layReach_44 : decode cX10_layReach 44 = .ok (.iload_n 2, 1) := by decide +kernel
theorem dX10_layReach_45 : decode cX10_layReach 45 = .ok (.bipush 56, 2) := by decide +kernel
theorem dX10_layReach_47 : decode cX10_layReach 47 = .ok (.if_icmp .ge 37, 3) := by decide +kernel
theorem dX10_layReach_50 : decode cX10_layReach 50 = .ok (.aload_n 0, 1) := by decide +kernel
theorem dX10_layReach_51 : decode cX10_layReach 51 = .ok (.getfield 73, 3) := by decide +kernel
theorem dX10_layReach_54 : decode cX10_layReach 54 = .ok (.iload_n 2, 1) := by decide +kernel
theorem dX10_layReach_55 : decode cX10_layReach 55 = .ok (.laload, 1) := by decide +kernel
theorem dX10_layReach_56 : decode cX10_layReach 56 = .ok (.iload_n 1, 1) := by decide +kernel
theorem dX10_layReach_57 : decode cX10_layReach 57 = .ok (.invokestatic 335, 3) := by decide +kernel
theorem dX10_layReach_60 : decode cX10_layReach 60 = .ok (.ifCond .eq 18, 3) := by decide +kernel
theorem dX10_layReach_63 : decode cX10_layReach 63 = .ok (.aload_n 0, 1) := by decide +kernel
theorem dX10_layReach_64 : decode cX10_layReach 64 = .ok (.getfield 73, 3) := by decide +kernel
theorem dX10_layReach_67 : decode cX10_layReach 67 = .ok (.iload_n 2, 1) := by decide +kernel
theorem dX10_layReach_68 : decode cX10_layReach 68 = .ok (.dup2, 1) := by decide +kernel
theorem dX10_layReach_69 : decode cX10_layReach 69 = .ok (.laload, 1) := by decide +kernel
theorem dX10_layReach_70 : decode cX10_layReach 70 = .ok (.aload_n 0, 1) := by decide +kernel
theorem dX10_layReach_71 : decode cX10_layReach 71 = .ok (.getfield 73, 3) := by decide +kernel
theorem dX10_layReach_74 : decode cX10_layReach 74 = .ok (.iload_n 1, 1) := by decide +kernel
theorem dX10_layReach_75 : decode cX10_layReach 75 = .ok (.laload, 1) := by decide +kernel
theorem dX10_layReach_76 : decode cX10_layReach 76 = .ok (.lor, 1) := by decide +kernel
theorem dX10_layReach_77 : decode cX10_layReach 77 = .ok (.lastore, 1) := by decide +kernel
theorem dX10_layReach_78 : decode cX10_layReach 78 = .ok (.iinc 2 1, 3) := by decide +kernel
theorem dX10_layReach_81 : decode cX10_layReach 81 = .ok (.goto (-37), 3) := by decide +kernel
theorem dX10_layReach_84 : decode cX10_layReach 84 = .ok (.iinc 1 1, 3) := by decide +kernel
theorem dX10_layReach_87 : decode cX10_layReach 87 = .ok (.goto (-51), 3) := by decide +kernel
theorem dX10_layReach_90 : decode cX10_layReach 90 = .ok (.return_, 1) := by decide +kernel
set_option maxHeartbeats 4000000 in
set_option maxRecDepth 100000 in
theorem c_X10_layReach {l : Launch} {g : Gh} {w : Wd} {k0 : Nat} {wz : Wd} (hF : f_X10_layReach w k0 = some wz) (hk0 : zct zM k0 = 10) : Met l yX10_layReach (Cond.code yX10_layReach cX10_layReach 3 none :: TT) (rmd 3) (Pcw zM g w [.ref (g.2.2 k0)]) (Qw zM g wz none) 0 0 (zA zM g) := by
  refine mt_start (by decide) (Nat.le_of_ble_eq_true rfl) ?_
  intro p e s m args below meth c H locs ls X hr hl hH
  have hx := X.1
  have hb := X.2.1
  have hml := X.2.2.1
  have hown := X.2.2.2.1
  have ht := X.2.2.2.2.1
  have hl : lv_has ls 3 [(0, .ref (g.2.2 (k0)))] := hl
  unfold f_X10_layReach at hF
  refine lv_aload_n hx hb dX10_layReach_0 rfl (lv_at hl 0 rfl) ?_
  obtain ⟨w1, h1, hF⟩ := ob hF
  refine w_callV (As := []) (k := k0) (rest := []) (st1 := []) X hH (c_X10_layEdges (l := l) (g := g) (w := w) (k0 := k0) h1 hk0) (Or.inl tw_7_39) ms_X10_layEdges im_X10_layEdges hk0 cn_10 ⟨Nat.le_of_ble_eq_true rfl, Nat.le_of_ble_eq_true rfl⟩ rfl rfl hl.1 (Nat.le_of_ble_eq_true rfl) dX10_layReach_1 ⟨Nat.le_refl _, Nat.le_refl _⟩ rfl (fun H locs hH => ?_)
  refine lv_iconst (v := (0 : Int32)) hx hb dX10_layReach_4 (by decide) ?_
  refine lv_istore_n (lv' := [(1, .int ((0 : Int32))), (0, .ref (g.2.2 (k0)))]) hx hb dX10_layReach_5 rfl hl (by decide) rfl (fun ls hl => ?_)
  obtain ⟨r3, hLr3, hF⟩ := ob hF
  have Jr3 : ∀ (H : Heap) (locs : List Loc) (ls : Array Slot), HW zM g r3 s.heap H locs → lv_has ls 3 [(0, .ref (g.2.2 (k0)))] → W p l e (rmd 3) s m args below meth c H locs 0 0 (MQ below (Qw zM g wz none) args s 0 0 (zA zM g)) (F0 m 34 ls []) := by
    intro H locs ls hH hl
    refine lv_iconst (v := (0 : Int32)) hx hb dX10_layReach_34 (by decide) ?_
    refine lv_istore_n (lv' := [(1, .int ((0 : Int32))), (0, .ref (g.2.2 (k0)))]) hx hb dX10_layReach_35 rfl hl (by decide) rfl (fun ls hl => ?_)
    obtain ⟨r8, hLr8, hF⟩ := ob hF
    have Jr8 : ∀ (H : Heap) (locs : List Loc) (ls : Array Slot), HW zM g r8 s.heap H locs → lv_has ls 3 [(0, .ref (g.2.2 (k0)))] → W p l e (rmd 3) s m args below meth c H locs 0 0 (MQ below (Qw zM g wz none) args s 0 0 (zA zM g)) (F0 m 90 ls []) := by
      intro H locs ls hH hl
      obtain rfl := se1 hF
      exact w_vret X hH hr dX10_layReach_90
    have Lr8 : ∀ (n : Nat) (s7 : Int32 × Wd), lp (b_X10_layReach_2 k0) n s7 = some r8 → ∀ (H : Heap) (locs : List Loc) (ls : Array Slot), HW zM g s7.2 s.heap H locs → lv_has ls 3 [(0, .ref (g.2.2 (k0))), (1, .int (s7.1))] → W p l e (rmd 3) s m args below meth c H locs 0 0 (MQ below (Qw zM g wz none) args s 0 0 (zA zM g)) (F0 m 36 ls []) := by
      intro n
      induction n with
      | zero => intro s7 hL; exact lp_0 hL
      | succ n ih =>
        intro s7 hL H locs ls hH hl
        obtain ⟨bb, hF, hL⟩ := lp_s hL
        unfold b_X10_layReach_2 at hF
        refine lv_iload_n hx hb dX10_layReach_36 rfl (lv_at hl 1 rfl) ?_
        refine lv_bipush (v := (56 : Int32)) hx hb dX10_layReach_37 (by decide) ?_
        refine w_ilt_f (tgt := 90) hx hb dX10_layReach_39 (by decide) (fun c9 => ?_) (fun c9 => ?_)
        · replace hF := ifn c9 hF
          obtain rfl := se1 hF
          subst hL
          exact Jr8 _ _ _ hH (lv_sub hl [0] rfl)
        · replace hF := ifp c9 hF
          refine lv_iconst (v := (0 : Int32)) hx hb dX10_layReach_42 (by decide) ?_
          refine lv_istore_n (lv' := [(2, .int ((0 : Int32))), (0, .ref (g.2.2 (k0))), (1, .int (s7.1))]) hx hb dX10_layReach_43 rfl hl (by decide) rfl (fun ls hl => ?_)
          obtain ⟨r11, hLr11, hF⟩ := ob hF
          have Jr11 : ∀ (H : Heap) (locs : List Loc) (ls : Array Slot), HW zM g r11 s.heap H locs → lv_has ls 3 [(0, .ref (g.2.2 (k0))), (1, .int (s7.1))] → W p l e (rmd 3) s m args below meth c H locs 0 0 (MQ below (Qw zM g wz none) args s 0 0 (zA zM g)) (F0 m 84 ls []) := by
            intro H locs ls hH hl
            refine lv_iinc (v := (s7.1 + (1 : Int32))) (lv' := [(1, .int ((s7.1 + (1 : Int32)))), (0, .ref (g.2.2 (k0)))]) hx hb dX10_layReach_84 hl (k := 1) rfl rfl (by decide) rfl (fun ls hl => ?_)
            refine lv_goto (tgt := 36) hx hb dX10_layReach_87 (by decide) ?_
            obtain rfl := se1 hF
            exact ih _ hL _ _ _ hH (lv_sub hl [1, 0] rfl)
          have Lr11 : ∀ (n : Nat) (s10 : Int32 × Wd), lp (b_X10_layReach_3 k0 s7) n s10 = some r11 → ∀ (H : Heap) (locs : List Loc) (ls : Array Slot), HW zM g s10.2 s.heap H locs → lv_has ls 3 [(0, .ref (g.2.2 (k0))), (1, .int (s7.1)), (2, .int (s10.1))] → W p l e (rmd 3) s m args below meth c H locs 0 0 (MQ below (Qw zM g wz none) args s 0 0 (zA zM g)) (F0 m 44 ls []) := by
            intro n
            induction n with
            | zero => intro s10 hL; exact lp_0 hL
            | succ n ih =>
              intro s10 hL H locs ls hH hl
              obtain ⟨bb, hF, hL⟩ := lp_s hL
              unfold b_X10_layReach_3 at hF
              refine lv_iload_n hx hb dX10_layReach_44 rfl (lv_at hl 2 rfl) ?_
              refine lv_bipush (v := (56 : Int32)) hx hb dX10_layReach_45 (by decide) ?_
              refine w_ilt_f (tgt := 84) hx hb dX10_layReach_47 (by decide) (fun c12 => ?_) (fun c12 => ?_)
              · replace hF := ifn c12 hF
                obtain rfl := se1 hF
                subst hL
                exact Jr11 _ _ _ hH (lv_sub hl [0, 1] rfl)
              · replace hF := ifp c12 hF
                obtain ⟨s13, hs13, hF⟩ := ob hF
                have Js13 : ∀ (H : Heap) (locs : List Loc) (ls : Array Slot), HW zM g s13 s.heap H locs → lv_has ls 3 [(0, .ref (g.2.2 (k0))), (1, .int (s7.1)), (2, .int (s10.1))] → W p l e (rmd 3) s m args below meth c H locs 0 0 (MQ below (Qw zM g wz none) args s 0 0 (zA zM g)) (F0 m 78 ls []) := by
                  intro H locs ls hH hl
                  refine lv_iinc (v := (s10.1 + (1 : Int32))) (lv' := [(2, .int ((s10.1 + (1 : Int32)))), (0, .ref (g.2.2 (k0))), (1, .int (s7.1))]) hx hb dX10_layReach_78 hl (k := 2) rfl rfl (by decide) rfl (fun ls hl => ?_)
                  refine lv_goto (tgt := 44) hx hb dX10_layReach_81 (by decide) ?_
                  obtain rfl := se1 hF
                  exact ih _ hL _ _ _ hH (lv_sub hl [1, 2, 0] rfl)
                have hF := hs13
                refine lv_aload_n hx hb dX10_layReach_50 rfl (lv_at hl 0 rfl) ?_
                refine w_getr X hH hk0 fs_10_38 lk_10_73 dX10_layReach_51 ?_
                refine lv_iload_n hx hb dX10_layReach_54 rfl (lv_at hl 2 rfl) ?_
                obtain ⟨x14, h14, hF⟩ := ob hF
                refine w_lald X hH h14 (rt_M_10_38 hk0) dX10_layReach_55 ?_
                refine lv_iload_n hx hb dX10_layReach_56 rfl (lv_at hl 1 rfl) ?_
                refine w_callS (As := [.long (x14), .int (s7.1)]) (rest := []) (st1 := [.int (bI ((f_X10_hasBit (x14) (s7.1))))]) X hH (c_X10_hasBit (l := l) (g := g) (w := s10.2) (v_set := x14) (v_k := s7.1) rfl) (Or.inl tw_7_47) ms_X10_hasBit tw_7_48 ⟨Nat.le_of_ble_eq_true rfl, Nat.le_of_ble_eq_true rfl⟩ rfl rfl hl.1 (Nat.le_of_ble_eq_true rfl) dX10_layReach_57 ⟨Nat.le_refl _, Nat.le_refl _⟩ rfl (fun H locs hH => ?_)
                refine w_b_f (tgt := 78) hx hb dX10_layReach_60 (by decide) (fun c15 => ?_) (fun c15 => ?_)
                · replace hF := ifn c15 hF
                  obtain rfl := se1 hF
                  exact Js13 _ _ _ hH (lv_sub hl [0, 1, 2] rfl)
                · replace hF := ifp c15 hF
                  refine lv_aload_n hx hb dX10_layReach_63 rfl (lv_at hl 0 rfl) ?_
                  refine w_getr X hH hk0 fs_10_38 lk_10_73 dX10_layReach_64 ?_
                  refine lv_iload_n hx hb dX10_layReach_67 rfl (lv_at hl 2 rfl) ?_
                  refine lv_dup2_11 hx hb dX10_layReach_68 rfl rfl ?_
                  obtain ⟨x16, h16, hF⟩ := ob hF
                  refine w_lald X hH h16 (rt_M_10_38 hk0) dX10_layReach_69 ?_
                  refine lv_aload_n hx hb dX10_layReach_70 rfl (lv_at hl 0 rfl) ?_
                  refine w_getr X hH hk0 fs_10_38 lk_10_73 dX10_layReach_71 ?_
                  refine lv_iload_n hx hb dX10_layReach_74 rfl (lv_at hl 1 rfl) ?_
                  obtain ⟨x17, h17, hF⟩ := ob hF
                  refine w_lald X hH h17 (rt_M_10_38 hk0) dX10_layReach_75 ?_
                  refine lv_lor hx hb dX10_layReach_76 ?_
                  obtain ⟨w18, h18, hF⟩ := ob hF
                  refine w_last X hH h18 (rt_M_10_38 hk0) dX10_layReach_77 (fun H locs hH => ?_)
                  obtain rfl := se1 hF
                  exact Js13 _ _ _ hH (lv_sub hl [0, 1, 2] rfl)
          exact Lr11 NF _ hLr11 _ _ _ hH (lv_sub hl [1, 2, 0] rfl)
    exact Lr8 NF _ hLr8 _ _ _ hH (lv_sub hl [1, 0] rfl)
  have Lr3 : ∀ (n : Nat) (s2 : Int32 × Wd), lp (b_X10_layReach_1 k0) n s2 = some r3 → ∀ (H : Heap) (locs : List Loc) (ls : Array Slot), HW zM g s2.2 s.heap H locs → lv_has ls 3 [(0, .ref (g.2.2 (k0))), (1, .int (s2.1))] → W p l e (rmd 3) s m args below meth c H locs 0 0 (MQ below (Qw zM g wz none) args s 0 0 (zA zM g)) (F0 m 6 ls []) := by
    intro n
    induction n with
    | zero => intro s2 hL; exact lp_0 hL
    | succ n ih =>
      intro s2 hL H locs ls hH hl
      obtain ⟨bb, hF, hL⟩ := lp_s hL
      unfold b_X10_layReach_1 at hF
      refine lv_iload_n hx hb dX10_layReach_6 rfl (lv_at hl 1 rfl) ?_
      refine lv_bipush (v := (56 : Int32)) hx hb dX10_layReach_7 (by decide) ?_
      refine w_ilt_f (tgt := 34) hx hb dX10_layReach_9 (by decide) (fun c4 => ?_) (fun c4 => ?_)
      · replace hF := ifn c4 hF
        obtain rfl := se1 hF
        subst hL
        exact Jr3 _ _ _ hH (lv_sub hl [0] rfl)
      · replace hF := ifp c4 hF
        refine lv_aload_n hx hb dX10_layReach_12 rfl (lv_at hl 0 rfl) ?_
        refine w_getr X hH hk0 fs_10_38 lk_10_73 dX10_layReach_13 ?_
        refine lv_iload_n hx hb dX10_layReach_16 rfl (lv_at hl 1 rfl) ?_
        refine lv_aload_n hx hb dX10_layReach_17 rfl (lv_at hl 0 rfl) ?_
        refine w_getr X hH hk0 fs_10_37 lk_10_70 dX10_layReach_18 ?_
        refine lv_iload_n hx hb dX10_layReach_21 rfl (lv_at hl 1 rfl) ?_
        obtain ⟨x5, h5, hF⟩ := ob hF
        refine w_lald X hH h5 (rt_M_10_37 hk0) dX10_layReach_22 ?_
        refine lv_lconst (v := 1) hx hb dX10_layReach_23 (by decide) ?_
        refine lv_iload_n hx hb dX10_layReach_24 rfl (lv_at hl 1 rfl) ?_
        refine w_lshl hx hb dX10_layReach_25 ?_
        refine lv_lor hx hb dX10_layReach_26 ?_
        obtain ⟨w6, h6, hF⟩ := ob hF
        refine w_last X hH h6 (rt_M_10_38 hk0) dX10_layReach_27 (fun H locs hH => ?_)
        refine lv_iinc (v := (s2.1 + (1 : Int32))) (lv' := [(1, .int ((s2.1 + (1 : Int32)))), (0, .ref (g.2.2 (k0)))]) hx hb dX10_layReach_28 hl (k := 1) rfl rfl (by decide) rfl (fun ls hl => ?_)
        refine lv_goto (tgt := 6) hx hb dX10_layReach_31 (by decide) ?_
        obtain rfl := se1 hF
        exact ih _ hL _ _ _ hH (lv_sub hl [1, 0] rfl)
  exact Lr3 NF _ hLr3 _ _ _ hH (lv_sub hl [1, 0] rfl)

theorem dX10_areTogether_0 : decode cX10_areTogether 0 = .ok (.aload_n 0, 1) := by decide +kernel
theorem dX10_areTogether_1 : decode cX10_areTogether 1 = .ok (.getfield 73, 3) := by decide +kernel
theorem dX10_areTogether_4 : decode cX10_areTogether 4 = .ok (.iload_n 1, 1) := by decide +kernel
theorem dX10_areTogether_5 : decode cX10_areTogether 5 = .ok (.laload, 1) := by decide +kernel
theorem dX10_areTogether_6 : decode cX10_areTogether 6 = .ok (.iload_n 2, 1) := by decide +kernel
theorem dX10_areTogether_7 : decode cX10_areTogether 7 = .ok (.invokestatic 335, 3) := by decide +kernel
theorem dX10_areTogether_10 : decode cX10_areTogether 10 = .ok (.ifCond .eq 20, 3) := by decide +kernel
theorem dX10_areTogether_13 : decode cX10_areTogether 13 = .ok (.aload_n 0, 1) := by decide +kernel
theorem dX10_areTogether_14 : decode cX10_areTogether 14 = .ok (.getfield 73, 3) := by decide +kernel
theorem dX10_areTogether_17 : decode cX10_areTogether 17 = .ok (.iload_n 2, 1) := by decide +kernel
theorem dX10_areTogether_18 : decode cX10_areTogether 18 = .ok (.laload, 1) := by decide +kernel
theorem dX10_areTogether_19 : decode cX10_areTogether 19 = .ok (.iload_n 1, 1) := by decide +kernel
theorem dX10_areTogether_20 : decode cX10_areTogether 20 = .ok (.invokestatic 335, 3) := by decide +kernel
theorem dX10_areTogether_23 : decode cX10_areTogether 23 = .ok (.ifCond .eq 7, 3) := by decide +kernel
theorem dX10_areTogether_26 : decode cX10_areTogether 26 = .ok (.iconst 1, 1) := by decide +kernel
theorem dX10_areTogether_27 : decode cX10_areTogether 27 = .ok (.goto 4, 3) := by decide +kernel
theorem dX10_areTogether_30 : decode cX10_areTogether 30 = .ok (.iconst 0, 1) := by decide +kernel
theorem dX10_areTogether_31 : decode cX10_areTogether 31 = .ok (.ireturn, 1) := by decide +kernel
set_option maxHeartbeats 4000000 in
set_option maxRecDepth 100000 in
theorem c_X10_areTogether {l : Launch} {g : Gh} {w : Wd} {k0 : Nat} {v_a : Int32} {v_b : Int32} {rz : Bool} (hF : f_X10_areTogether w k0 v_a v_b = some rz) (hk0 : zct zM k0 = 10) : Met l yX10_areTogether (Cond.code yX10_areTogether cX10_areTogether 3 (some .boolean) :: TT) (rmd 1) (Pcw zM g w [.ref (g.2.2 k0), .int (v_a), .int (v_b)]) (Qw zM g w (some (.int (bI (rz))))) 0 0 (zA zM g) := by
  refine mt_start (by decide) (Nat.le_of_ble_eq_true rfl) ?_
  intro p e s m args below meth c H locs ls X hr hl hH
  have hx := X.1
  have hb := X.2.1
  have hml := X.2.2.1
  have hown := X.2.2.2.1
  have ht := X.2.2.2.2.1
  have hl : lv_has ls 3 [(0, .ref (g.2.2 (k0))), (1, .int (v_a)), (2, .int (v_b))] := hl
  unfold f_X10_areTogether at hF
  obtain ⟨b2, hb2, hF⟩ := ob hF
  have J1 : ∀ (H : Heap) (locs : List Loc), HW zM g w s.heap H locs → W p l e (rmd 1) s m args below meth c H locs 0 0 (MQ below (Qw zM g w (some (.int (bI (rz))))) args s 0 0 (zA zM g)) (F0 m 31 ls [.int (bI (b2))]) := by
    intro H locs hH
    obtain rfl := se1 hF
    exact w_zret X hH hr dX10_areTogether_31
  have hF := hb2
  refine lv_aload_n hx hb dX10_areTogether_0 rfl (lv_at hl 0 rfl) ?_
  refine w_getr X hH hk0 fs_10_38 lk_10_73 dX10_areTogether_1 ?_
  refine lv_iload_n hx hb dX10_areTogether_4 rfl (lv_at hl 1 rfl) ?_
  obtain ⟨x4, h4, hF⟩ := ob hF
  refine w_lald X hH h4 (rt_M_10_38 hk0) dX10_areTogether_5 ?_
  refine lv_iload_n hx hb dX10_areTogether_6 rfl (lv_at hl 2 rfl) ?_
  refine w_callS (As := [.long (x4), .int (v_b)]) (rest := []) (st1 := [.int (bI ((f_X10_hasBit (x4) (v_b))))]) X hH (c_X10_hasBit (l := l) (g := g) (w := w) (v_set := x4) (v_k := v_b) rfl) (Or.inl tw_7_47) ms_X10_hasBit tw_7_48 ⟨Nat.le_of_ble_eq_true rfl, Nat.le_of_ble_eq_true rfl⟩ rfl rfl hl.1 (Nat.le_of_ble_eq_true rfl) dX10_areTogether_7 ⟨Nat.le_refl _, Nat.le_refl _⟩ rfl (fun H locs hH => ?_)
  refine w_b_f (tgt := 30) hx hb dX10_areTogether_10 (by decide) (fun c3 => ?_) (fun c3 => ?_)
  · replace hF := ifn c3 hF
    refine lv_iconst (v := (0 : Int32)) hx hb dX10_areTogether_30 (by decide) ?_
    obtain rfl := se1 hF
    exact J1 _ _ hH
  · replace hF := ifp c3 hF
    refine lv_aload_n hx hb dX10_areTogether_13 rfl (lv_at hl 0 rfl) ?_
    refine w_getr X hH hk0 fs_10_38 lk_10_73 dX10_areTogether_14 ?_
    refine lv_iload_n hx hb dX10_areTogether_17 rfl (lv_at hl 2 rfl) ?_
    obtain ⟨x6, h6, hF⟩ := ob hF
    refine w_lald X hH h6 (rt_M_10_38 hk0) dX10_areTogether_18 ?_
    refine lv_iload_n hx hb dX10_areTogether_19 rfl (lv_at hl 1 rfl) ?_
    refine w_callS (As := [.long (x6), .int (v_a)]) (rest := []) (st1 := [.int (bI ((f_X10_hasBit (x6) (v_a))))]) X hH (c_X10_hasBit (l := l) (g := g) (w := w) (v_set := x6) (v_k := v_a) rfl) (Or.inl tw_7_47) ms_X10_hasBit tw_7_48 ⟨Nat.le_of_ble_eq_true rfl, Nat.le_of_ble_eq_true rfl⟩ rfl rfl hl.1 (Nat.le_of_ble_eq_true rfl) dX10_areTogether_20 ⟨Nat.le_refl _, Nat.le_refl _⟩ rfl (fun H locs hH => ?_)
    refine w_b_f (tgt := 30) hx hb dX10_areTogether_23 (by decide) (fun c5 => ?_) (fun c5 => ?_)
    · replace hF := ifn c5 hF
      refine lv_iconst (v := (0 : Int32)) hx hb dX10_areTogether_30 (by decide) ?_
      obtain rfl := se1 hF
      exact J1 _ _ hH
    · replace hF := ifp c5 hF
      refine lv_iconst (v := (1 : Int32)) hx hb dX10_areTogether_26 (by decide) ?_
      refine lv_goto (tgt := 31) hx hb dX10_areTogether_27 (by decide) ?_
      obtain rfl := se1 hF
      exact J1 _ _ hH

theorem dX10_lowest_0 : decode cX10_lowest 0 = .ok (.iconst 0, 1) := by decide +kernel
theorem dX10_lowest_1 : decode cX10_lowest 1 = .ok (.istore_n 2, 1) := by decide +kernel
theorem dX10_lowest_2 : decode cX10_lowest 2 = .ok (.aload_n 0, 1) := by decide +kernel
theorem dX10_lowest_3 : decode cX10_lowest 3 = .ok (.iload_n 2, 1) := by decide +kernel
theorem dX10_lowest_4 : decode cX10_lowest 4 = .ok (.iload_n 1, 1) := by decide +kernel
theorem dX10_lowest_5 : decode cX10_lowest 5 = .ok (.invokevirtual 339, 3) := by decide +kernel
theorem dX10_lowest_8 : decode cX10_lowest 8 = .ok (.ifCond .ne 9, 3) := by decide +kernel
theorem dX10_lowest_11 : decode cX10_lowest 11 = .ok (.iinc 2 1, 3) := by decide +kernel
theorem dX10_lowest_14 : decode cX10_lowest 14 = .ok (.goto (-12), 3) := by decide +kernel
theorem dX10_lowest_17 : decode cX10_lowest 17 = .ok (.iload_n 2, 1) := by decide +kernel
theorem dX10_lowest_18 : decode cX10_lowest 18 = .ok (.ireturn, 1) := by decide +kernel
set_option maxHeartbeats 4000000 in
set_option maxRecDepth 100000 in
theorem c_X10_lowest {l : Launch} {g : Gh} {w : Wd} {k0 : Nat} {v_k : Int32} {rz : Int32} (hF : f_X10_lowest w k0 v_k = some rz) (hk0 : zct zM k0 = 10) : Met l yX10_lowest (Cond.code yX10_lowest cX10_lowest 3 (some .int) :: TT) (rmd 2) (Pcw zM g w [.ref (g.2.2 k0), .int (v_k)]) (Qw zM g w (some (.int (rz)))) 0 0 (zA zM g) := by
  refine mt_start (by decide) (Nat.le_of_ble_eq_true rfl) ?_
  intro p e s m args below meth c H locs ls X hr hl hH
  have hx := X.1
  have hb := X.2.1
  have hml := X.2.2.1
  have hown := X.2.2.2.1
  have ht := X.2.2.2.2.1
  have hl : lv_has ls 3 [(0, .ref (g.2.2 (k0))), (1, .int (v_k))] := hl
  unfold f_X10_lowest at hF
  refine lv_iconst (v := (0 : Int32)) hx hb dX10_lowest_0 (by decide) ?_
  refine lv_istore_n (lv' := [(2, .int ((0 : Int32))), (0, .ref (g.2.2 (k0))), (1, .int (v_k))]) hx hb dX10_lowest_1 rfl hl (by decide) rfl (fun ls hl => ?_)
  obtain ⟨r2, hLr2, hF⟩ := ob hF
  have Jr2 : ∀ (H : Heap) (locs : List Loc) (ls : Array Slot), HW zM g w s.heap H locs → lv_has ls 3 [(0, .ref (g.2.2 (k0))), (1, .int (v_k)), (2, .int (r2))] → W p l e (rmd 2) s m args below meth c H locs 0 0 (MQ below (Qw zM g w (some (.int (rz)))) args s 0 0 (zA zM g)) (F0 m 17 ls []) := by
    intro H locs ls hH hl
    refine lv_iload_n hx hb dX10_lowest_17 rfl (lv_at hl 2 rfl) ?_
    obtain rfl := se1 hF
    exact w_iret X hH hr dX10_lowest_18
  have Lr2 : ∀ (n : Nat) (s1 : Int32), lp (b_X10_lowest_1 w k0 v_k) n s1 = some r2 → ∀ (H : Heap) (locs : List Loc) (ls : Array Slot), HW zM g w s.heap H locs → lv_has ls 3 [(0, .ref (g.2.2 (k0))), (1, .int (v_k)), (2, .int (s1))] → W p l e (rmd 2) s m args below meth c H locs 0 0 (MQ below (Qw zM g w (some (.int (rz)))) args s 0 0 (zA zM g)) (F0 m 2 ls []) := by
    intro n
    induction n with
    | zero => intro s1 hL; exact lp_0 hL
    | succ n ih =>
      intro s1 hL H locs ls hH hl
      obtain ⟨bb, hF, hL⟩ := lp_s hL
      unfold b_X10_lowest_1 at hF
      refine lv_aload_n hx hb dX10_lowest_2 rfl (lv_at hl 0 rfl) ?_
      refine lv_iload_n hx hb dX10_lowest_3 rfl (lv_at hl 2 rfl) ?_
      refine lv_iload_n hx hb dX10_lowest_4 rfl (lv_at hl 1 rfl) ?_
      obtain ⟨x3, h3, hF⟩ := ob hF
      refine w_callV (As := [.int (s1), .int (v_k)]) (k := k0) (rest := []) (st1 := [.int (bI (x3))]) X hH (c_X10_areTogether (l := l) (g := g) (w := w) (k0 := k0) (v_a := s1) (v_b := v_k) h3 hk0) (Or.inl tw_7_70) ms_X10_areTogether im_X10_areTogether hk0 cn_10 ⟨Nat.le_of_ble_eq_true rfl, Nat.le_of_ble_eq_true rfl⟩ rfl rfl hl.1 (Nat.le_of_ble_eq_true rfl) dX10_lowest_5 ⟨Nat.le_refl _, Nat.le_refl _⟩ rfl (fun H locs hH => ?_)
      refine w_b_t (tgt := 17) hx hb dX10_lowest_8 (by decide) (fun c4 => ?_) (fun c4 => ?_)
      · replace hF := ifn (fun z => z c4) hF
        obtain rfl := se1 hF
        subst hL
        exact Jr2 _ _ _ hH (lv_sub hl [0, 1, 2] rfl)
      · replace hF := ifp c4 hF
        refine lv_iinc (v := (s1 + (1 : Int32))) (lv' := [(2, .int ((s1 + (1 : Int32)))), (0, .ref (g.2.2 (k0))), (1, .int (v_k))]) hx hb dX10_lowest_11 hl (k := 2) rfl rfl (by decide) rfl (fun ls hl => ?_)
        refine lv_goto (tgt := 2) hx hb dX10_lowest_14 (by decide) ?_
        obtain rfl := se1 hF
        exact ih _ hL _ _ _ hH (lv_sub hl [1, 2, 0] rfl)
  exact Lr2 NF _ hLr2 _ _ _ hH (lv_sub hl [1, 2, 0] rfl)

theorem dX10_sizeOf_0 : decode cX10_sizeOf 0 = .ok (.iconst 0, 1) := by decide +kernel
theorem dX10_sizeOf_1 : decode cX10_sizeOf 1 = .ok (.istore_n 2, 1) := by decide +kernel
theorem dX10_sizeOf_2 : decode cX10_sizeOf 2 = .ok (.iconst 0, 1) := by decide +kernel
theorem dX10_sizeOf_3 : decode cX10_sizeOf 3 = .ok (.istore_n 3, 1) := by decide +kernel
theorem dX10_sizeOf_4 : decode cX10_sizeOf 4 = .ok (.iload_n 3, 1) := by decide +kernel
theorem dX10_sizeOf_5 : decode cX10_sizeOf 5 = .ok (.bipush 56, 2) := by decide +kernel
theorem dX10_sizeOf_7 : decode cX10_sizeOf 7 = .ok (.if_icmp .ge 26, 3) := by decide +kernel
theorem dX10_sizeOf_10 : decode cX10_sizeOf 10 = .ok (.iload_n 2, 1) := by decide +kernel
theorem dX10_sizeOf_11 : decode cX10_sizeOf 11 = .ok (.aload_n 0, 1) := by decide +kernel
theorem dX10_sizeOf_12 : decode cX10_sizeOf 12 = .ok (.iload_n 3, 1) := by decide +kernel
theorem dX10_sizeOf_13 : decode cX10_sizeOf 13 = .ok (.iload_n 1, 1) := by decide +kernel
theorem dX10_sizeOf_14 : decode cX10_sizeOf 14 = .ok (.invokevirtual 339, 3) := by decide +kernel
theorem dX10_sizeOf_17 : decode cX10_sizeOf 17 = .ok (.ifCond .eq 7, 3) := by decide +kernel
theorem dX10_sizeOf_20 : decode cX10_sizeOf 20 = .ok (.iconst 1, 1) := by decide +kernel
theorem dX10_sizeOf_21 : decode cX10_sizeOf 21 = .ok (.goto 4, 3) := by decide +kernel
theorem dX10_sizeOf_24 : decode cX10_sizeOf 24 = .ok (.iconst 0, 1) := by decide +kernel
theorem dX10_sizeOf_25 : decode cX10_sizeOf 25 = .ok (.iadd, 1) := by decide +kernel
theorem dX10_sizeOf_26 : decode cX10_sizeOf 26 = .ok (.istore_n 2, 1) := by decide +kernel
theorem dX10_sizeOf_27 : decode cX10_sizeOf 27 = .ok (.iinc 3 1, 3) := by decide +kernel
theorem dX10_sizeOf_30 : decode cX10_sizeOf 30 = .ok (.goto (-26), 3) := by decide +kernel
theorem dX10_sizeOf_33 : decode cX10_sizeOf 33 = .ok (.iload_n 2, 1) := by decide +kernel
theorem dX10_sizeOf_34 : decode cX10_sizeOf 34 = .ok (.ireturn, 1) := by decide +kernel
set_option maxHeartbeats 4000000 in
set_option maxRecDepth 100000 in
theorem c_X10_sizeOf {l : Launch} {g : Gh} {w : Wd} {k0 : Nat} {v_k : Int32} {rz : Int32} (hF : f_X10_sizeOf w k0 v_k = some rz) (hk0 : zct zM k0 = 10) : Met l yX10_sizeOf (Cond.code yX10_sizeOf cX10_sizeOf 4 (some .int) :: TT) (rmd 2) (Pcw zM g w [.ref (g.2.2 k0), .int (v_k)]) (Qw zM g w (some (.int (rz)))) 0 0 (zA zM g) := by
  refine mt_start (by decide) (Nat.le_of_ble_eq_true rfl) ?_
  intro p e s m args below meth c H locs ls X hr hl hH
  have hx := X.1
  have hb := X.2.1
  have hml := X.2.2.1
  have hown := X.2.2.2.1
  have ht := X.2.2.2.2.1
  have hl : lv_has ls 4 [(0, .ref (g.2.2 (k0))), (1, .int (v_k))] := hl
  unfold f_X10_sizeOf at hF
  refine lv_iconst (v := (0 : Int32)) hx hb dX10_sizeOf_0 (by decide) ?_
  refine lv_istore_n (lv' := [(2, .int ((0 : Int32))), (0, .ref (g.2.2 (k0))), (1, .int (v_k))]) hx hb dX10_sizeOf_1 rfl hl (by decide) rfl (fun ls hl => ?_)
  refine lv_iconst (v := (0 : Int32)) hx hb dX10_sizeOf_2 (by decide) ?_
  refine lv_istore_n (lv' := [(3, .int ((0 : Int32))), (2, .int ((0 : Int32))), (0, .ref (g.2.2 (k0))), (1, .int (v_k))]) hx hb dX10_sizeOf_3 rfl hl (by decide) rfl (fun ls hl => ?_)
  obtain ⟨r2, hLr2, hF⟩ := ob hF
  have Jr2 : ∀ (H : Heap) (locs : List Loc) (ls : Array Slot), HW zM g w s.heap H locs → lv_has ls 4 [(0, .ref (g.2.2 (k0))), (1, .int (v_k)), (2, .int (r2))] → W p l e (rmd 2) s m args below meth c H locs 0 0 (MQ below (Qw zM g w (some (.int (rz)))) args s 0 0 (zA zM g)) (F0 m 33 ls []) := by
    intro H locs ls hH hl
    refine lv_iload_n hx hb dX10_sizeOf_33 rfl (lv_at hl 2 rfl) ?_
    obtain rfl := se1 hF
    exact w_iret X hH hr dX10_sizeOf_34
  have Lr2 : ∀ (n : Nat) (s1 : Int32 × Int32), lp (b_X10_sizeOf_1 w k0 v_k) n s1 = some r2 → ∀ (H : Heap) (locs : List Loc) (ls : Array Slot), HW zM g w s.heap H locs → lv_has ls 4 [(0, .ref (g.2.2 (k0))), (1, .int (v_k)), (2, .int (s1.1)), (3, .int (s1.2))] → W p l e (rmd 2) s m args below meth c H locs 0 0 (MQ below (Qw zM g w (some (.int (rz)))) args s 0 0 (zA zM g)) (F0 m 4 ls []) := by
    intro n
    induction n with
    | zero => intro s1 hL; exact lp_0 hL
    | succ n ih =>
      intro s1 hL H locs ls hH hl
      obtain ⟨bb, hF, hL⟩ := lp_s hL
      unfold b_X10_sizeOf_1 at hF
      refine lv_iload_n hx hb dX10_sizeOf_4 rfl (lv_at hl 3 rfl) ?_
      refine lv_bipush (v := (56 : Int32)) hx hb dX10_sizeOf_5 (by decide) ?_
      refine w_ilt_f (tgt := 33) hx hb dX10_sizeOf_7 (by decide) (fun c3 => ?_) (fun c3 => ?_)
      · replace hF := ifn c3 hF
        obtain rfl := se1 hF
        subst hL
        exact Jr2 _ _ _ hH (lv_sub hl [0, 1, 2] rfl)
      · replace hF := ifp c3 hF
        refine lv_iload_n hx hb dX10_sizeOf_10 rfl (lv_at hl 2 rfl) ?_
        refine lv_aload_n hx hb dX10_sizeOf_11 rfl (lv_at hl 0 rfl) ?_
        refine lv_iload_n hx hb dX10_sizeOf_12 rfl (lv_at hl 3 rfl) ?_
        refine lv_iload_n hx hb dX10_sizeOf_13 rfl (lv_at hl 1 rfl) ?_
        obtain ⟨x5, h5, hF⟩ := ob hF
        refine w_callV (As := [.int (s1.2), .int (v_k)]) (k := k0) (rest := [.int (s1.1)]) (st1 := [.int (bI (x5)), .int (s1.1)]) X hH (c_X10_areTogether (l := l) (g := g) (w := w) (k0 := k0) (v_a := s1.2) (v_b := v_k) h5 hk0) (Or.inl tw_7_70) ms_X10_areTogether im_X10_areTogether hk0 cn_10 ⟨Nat.le_of_ble_eq_true rfl, Nat.le_of_ble_eq_true rfl⟩ rfl rfl hl.1 (Nat.le_of_ble_eq_true rfl) dX10_sizeOf_14 ⟨Nat.le_refl _, Nat.le_refl _⟩ rfl (fun H locs hH => ?_)
        have J4 : ∀ (H : Heap) (locs : List Loc), HW zM g w s.heap H locs → W p l e (rmd 2) s m args below meth c H locs 0 0 (MQ below (Qw zM g w (some (.int (rz)))) args s 0 0 (zA zM g)) (F0 m 25 ls [.int ((if x5 = true then (1 : Int32) else (0 : Int32))), .int (s1.1)]) := by
          intro H locs hH
          refine lv_iadd hx hb dX10_sizeOf_25 ?_
          refine lv_istore_n (lv' := [(2, .int ((s1.1 + (if x5 = true then (1 : Int32) else (0 : Int32))))), (0, .ref (g.2.2 (k0))), (1, .int (v_k)), (3, .int (s1.2))]) hx hb dX10_sizeOf_26 rfl hl (by decide) rfl (fun ls hl => ?_)
          refine lv_iinc (v := (s1.2 + (1 : Int32))) (lv' := [(3, .int ((s1.2 + (1 : Int32)))), (2, .int ((s1.1 + (if x5 = true then (1 : Int32) else (0 : Int32))))), (0, .ref (g.2.2 (k0))), (1, .int (v_k))]) hx hb dX10_sizeOf_27 hl (k := 3) rfl rfl (by decide) rfl (fun ls hl => ?_)
          refine lv_goto (tgt := 4) hx hb dX10_sizeOf_30 (by decide) ?_
          obtain rfl := se1 hF
          exact ih _ hL _ _ _ hH (lv_sub hl [2, 3, 1, 0] rfl)
        refine w_b_f (tgt := 24) hx hb dX10_sizeOf_17 (by decide) (fun c6 => ?_) (fun c6 => ?_)
        · refine lv_iconst (v := (0 : Int32)) hx hb dX10_sizeOf_24 (by decide) ?_
          exact w_in c6 (J4 _ _ hH)
        · refine lv_iconst (v := (1 : Int32)) hx hb dX10_sizeOf_20 (by decide) ?_
          refine lv_goto (tgt := 25) hx hb dX10_sizeOf_21 (by decide) ?_
          exact w_ip c6 (J4 _ _ hH)
  exact Lr2 NF _ hLr2 _ _ _ hH (lv_sub hl [2, 3, 1, 0] rfl)

theorem dX10_edgeCount_0 : decode cX10_edgeCount 0 = .ok (.aload_n 0, 1) := by decide +kernel
theorem dX10_edgeCount_1 : decode cX10_edgeCount 1 = .ok (.iconst 0, 1) := by decide +kernel
theorem dX10_edgeCount_2 : decode cX10_edgeCount 2 = .ok (.putfield 85, 3) := by decide +kernel
theorem dX10_edgeCount_5 : decode cX10_edgeCount 5 = .ok (.aload_n 0, 1) := by decide +kernel
theorem dX10_edgeCount_6 : decode cX10_edgeCount 6 = .ok (.invokevirtual 332, 3) := by decide +kernel
theorem dX10_edgeCount_9 : decode cX10_edgeCount 9 = .ok (.iconst 0, 1) := by decide +kernel
theorem dX10_edgeCount_10 : decode cX10_edgeCount 10 = .ok (.istore_n 1, 1) := by decide +kernel
theorem dX10_edgeCount_11 : decode cX10_edgeCount 11 = .ok (.iconst 0, 1) := by decide +kernel
theorem dX10_edgeCount_12 : decode cX10_edgeCount 12 = .ok (.istore_n 2, 1) := by decide +kernel
theorem dX10_edgeCount_13 : decode cX10_edgeCount 13 = .ok (.iload_n 2, 1) := by decide +kernel
theorem dX10_edgeCount_14 : decode cX10_edgeCount 14 = .ok (.bipush 56, 2) := by decide +kernel
theorem dX10_edgeCount_16 : decode cX10_edgeCount 16 = .ok (.if_icmp .ge 44, 3) := by decide +kernel
theorem dX10_edgeCount_19 : decode cX10_edgeCount 19 = .ok (.iconst 0, 1) := by decide +kernel
theorem dX10_edgeCount_20 : decode cX10_edgeCount 20 = .ok (.istore_n 3, 1) := by decide +kernel
theorem dX10_edgeCount_21 : decode cX10_edgeCount 21 = .ok (.iload_n 3, 1) := by decide +kernel
theorem dX10_edgeCount_22 : decode cX10_edgeCount 22 = .ok (.bipush 56, 2) := by decide +kernel
theorem dX10_edgeCount_24 : decode cX10_edgeCount 24 = .ok (.if_icmp .ge 30, 3) := by decide +kernel
theorem dX10_edgeCount_27 : decode cX10_edgeCount 27 = .ok (.iload_n 1, 1) := by decide +kernel
theorem dX10_edgeCount_28 : decode cX10_edgeCount 28 = .ok (.aload_n 0, 1) := by decide +kernel
theorem dX10_edgeCount_29 : decode cX10_edgeCount 29 = .ok (.getfield 70, 3) := by decide +kernel
theorem dX10_edgeCount_32 : decode cX10_edgeCount 32 = .ok (.iload_n 2, 1) := by decide +kernel
theorem dX10_edgeCount_33 : decode cX10_edgeCount 33 = .ok (.laload, 1) := by decide +kernel
theorem dX10_edgeCount_34 : decode cX10_edgeCount 34 = .ok (.iload_n 3, 1) := by decide +kernel
theorem dX10_edgeCount_35 : decode cX10_edgeCount 35 = .ok (.invokestatic 335, 3) := by decide +kernel
theorem dX10_edgeCount_38 : decode cX10_edgeCount 38 = .ok (.ifCond .eq 7, 3) := by decide +kernel
theorem dX10_edgeCount_41 : decode cX10_edgeCount 41 = .ok (.iconst 1, 1) := by decide +kernel
theorem dX10_edgeCount_42 : decode cX10_edgeCount 42 = .ok (.goto 4, 3) := by decide +kernel
theorem dX10_edgeCount_45 : decode cX10_edgeCount 45 = .ok (.iconst 0, 1) := by decide +kernel
theorem dX10_edgeCount_46 : decode cX10_edgeCount 46 = .ok (.iadd, 1) := by decide +kernel
theorem dX10_edgeCount_47 : decode cX10_edgeCount 47 = .ok (.istore_n 1, 1) := by decide +kernel
theorem dX10_edgeCount_48 : decode cX10_edgeCount 48 = .ok (.iinc 3 1, 3) := by decide +kernel
theorem dX10_edgeCount_51 : decode cX10_edgeCount 51 = .ok (.goto (-30), 3) := by decide +kernel
theorem dX10_edgeCount_54 : decode cX10_edgeCount 54 = .ok (.iinc 2 1, 3) := by decide +kernel
theorem dX10_edgeCount_57 : decode cX10_edgeCount 57 = .ok (.goto (-44), 3) := by decide +kernel
theorem dX10_edgeCount_60 : decode cX10_edgeCount 60 = .ok (.iload_n 1, 1) := by decide +kernel
theorem dX10_edgeCount_61 : decode cX10_edgeCount 61 = .ok (.ireturn, 1) := by decide +kernel
set_option maxHeartbeats 4000000 in
set_option maxRecDepth 100000 in
theorem c_X10_edgeCount {l : Launch} {g : Gh} {w : Wd} {k0 : Nat} {rz : Int32} {wz : Wd} (hF : f_X10_edgeCount w k0 = some (rz, wz)) (hk0 : zct zM k0 = 10) : Met l yX10_edgeCount (Cond.code yX10_edgeCount cX10_edgeCount 4 (some .int) :: TT) (rmd 3) (Pcw zM g w [.ref (g.2.2 k0)]) (Qw zM g wz (some (.int (rz)))) 0 0 (zA zM g) := by
  refine mt_start (by decide) (Nat.le_of_ble_eq_true rfl) ?_
  intro p e s m args below meth c H locs ls X hr hl hH
  have hx := X.1
  have hb := X.2.1
  have hml := X.2.2.1
  have hown := X.2.2.2.1
  have ht := X.2.2.2.2.1
  have hl : lv_has ls 4 [(0, .ref (g.2.2 (k0)))] := hl
  unfold f_X10_edgeCount at hF
  refine lv_aload_n hx hb dX10_edgeCount_0 rfl (lv_at hl 0 rfl) ?_
  refine lv_iconst (v := (0 : Int32)) hx hb dX10_edgeCount_1 (by decide) ?_
  obtain ⟨w1, h1, hF⟩ := ob hF
  refine w_puti X hH h1 hk0 fs_10_0 nf_10_0 lk_10_85 dX10_edgeCount_2 (fun H locs hH => ?_)
  refine lv_aload_n hx hb dX10_edgeCount_5 rfl (lv_at hl 0 rfl) ?_
  obtain ⟨w2, h2, hF⟩ := ob hF
  refine w_callV (As := []) (k := k0) (rest := []) (st1 := []) X hH (c_X10_layEdges (l := l) (g := g) (w := w1) (k0 := k0) h2 hk0) (Or.inl tw_7_39) ms_X10_layEdges im_X10_layEdges hk0 cn_10 ⟨Nat.le_of_ble_eq_true rfl, Nat.le_of_ble_eq_true rfl⟩ rfl rfl hl.1 (Nat.le_of_ble_eq_true rfl) dX10_edgeCount_6 ⟨Nat.le_refl _, Nat.le_refl _⟩ rfl (fun H locs hH => ?_)
  refine lv_iconst (v := (0 : Int32)) hx hb dX10_edgeCount_9 (by decide) ?_
  refine lv_istore_n (lv' := [(1, .int ((0 : Int32))), (0, .ref (g.2.2 (k0)))]) hx hb dX10_edgeCount_10 rfl hl (by decide) rfl (fun ls hl => ?_)
  refine lv_iconst (v := (0 : Int32)) hx hb dX10_edgeCount_11 (by decide) ?_
  refine lv_istore_n (lv' := [(2, .int ((0 : Int32))), (1, .int ((0 : Int32))), (0, .ref (g.2.2 (k0)))]) hx hb dX10_edgeCount_12 rfl hl (by decide) rfl (fun ls hl => ?_)
  obtain ⟨r4, hLr4, hF⟩ := ob hF
  have Jr4 : ∀ (H : Heap) (locs : List Loc) (ls : Array Slot), HW zM g w2 s.heap H locs → lv_has ls 4 [(0, .ref (g.2.2 (k0))), (1, .int (r4))] → W p l e (rmd 3) s m args below meth c H locs 0 0 (MQ below (Qw zM g wz (some (.int (rz)))) args s 0 0 (zA zM g)) (F0 m 60 ls []) := by
    intro H locs ls hH hl
    refine lv_iload_n hx hb dX10_edgeCount_60 rfl (lv_at hl 1 rfl) ?_
    obtain ⟨rfl, rfl⟩ := se2 hF
    exact w_iret X hH hr dX10_edgeCount_61
  have Lr4 : ∀ (n : Nat) (s3 : Int32 × Int32), lp (b_X10_edgeCount_1 w2 k0) n s3 = some r4 → ∀ (H : Heap) (locs : List Loc) (ls : Array Slot), HW zM g w2 s.heap H locs → lv_has ls 4 [(0, .ref (g.2.2 (k0))), (1, .int (s3.1)), (2, .int (s3.2))] → W p l e (rmd 3) s m args below meth c H locs 0 0 (MQ below (Qw zM g wz (some (.int (rz)))) args s 0 0 (zA zM g)) (F0 m 13 ls []) := by
    intro n
    induction n with
    | zero => intro s3 hL; exact lp_0 hL
    | succ n ih =>
      intro s3 hL H locs ls hH hl
      obtain ⟨bb, hF, hL⟩ := lp_s hL
      unfold b_X10_edgeCount_1 at hF
      refine lv_iload_n hx hb dX10_edgeCount_13 rfl (lv_at hl 2 rfl) ?_
      refine lv_bipush (v := (56 : Int32)) hx hb dX10_edgeCount_14 (by decide) ?_
      refine w_ilt_f (tgt := 60) hx hb dX10_edgeCount_16 (by decide) (fun c5 => ?_) (fun c5 => ?_)
      · replace hF := ifn c5 hF
        obtain rfl := se1 hF
        subst hL
        exact Jr4 _ _ _ hH (lv_sub hl [0, 1] rfl)
      · replace hF := ifp c5 hF
        refine lv_iconst (v := (0 : Int32)) hx hb dX10_edgeCount_19 (by decide) ?_
        refine lv_istore_n (lv' := [(3, .int ((0 : Int32))), (0, .ref (g.2.2 (k0))), (1, .int (s3.1)), (2, .int (s3.2))]) hx hb dX10_edgeCount_20 rfl hl (by decide) rfl (fun ls hl => ?_)
        obtain ⟨r7, hLr7, hF⟩ := ob hF
        have Jr7 : ∀ (H : Heap) (locs : List Loc) (ls : Array Slot), HW zM g w2 s.heap H locs → lv_has ls 4 [(0, .ref (g.2.2 (k0))), (1, .int (r7)), (2, .int (s3.2))] → W p l e (rmd 3) s m args below meth c H locs 0 0 (MQ below (Qw zM g wz (some (.int (rz)))) args s 0 0 (zA zM g)) (F0 m 54 ls []) := by
          intro H locs ls hH hl
          refine lv_iinc (v := (s3.2 + (1 : Int32))) (lv' := [(2, .int ((s3.2 + (1 : Int32)))), (0, .ref (g.2.2 (k0))), (1, .int (r7))]) hx hb dX10_edgeCount_54 hl (k := 2) rfl rfl (by decide) rfl (fun ls hl => ?_)
          refine lv_goto (tgt := 13) hx hb dX10_edgeCount_57 (by decide) ?_
          obtain rfl := se1 hF
          exact ih _ hL _ _ _ hH (lv_sub hl [1, 2, 0] rfl)
        have Lr7 : ∀ (n : Nat) (s6 : Int32 × Int32), lp (b_X10_edgeCount_2 w2 k0 s3) n s6 = some r7 → ∀ (H : Heap) (locs : List Loc) (ls : Array Slot), HW zM g w2 s.heap H locs → lv_has ls 4 [(0, .ref (g.2.2 (k0))), (1, .int (s6.1)), (2, .int (s3.2)), (3, .int (s6.2))] → W p l e (rmd 3) s m args below meth c H locs 0 0 (MQ below (Qw zM g wz (some (.int (rz)))) args s 0 0 (zA zM g)) (F0 m 21 ls []) := by
          intro n
          induction n with
          | zero => intro s6 hL; exact lp_0 hL
          | succ n ih =>
            intro s6 hL H locs ls hH hl
            obtain ⟨bb, hF, hL⟩ := lp_s hL
            unfold b_X10_edgeCount_2 at hF
            refine lv_iload_n hx hb dX10_edgeCount_21 rfl (lv_at hl 3 rfl) ?_
            refine lv_bipush (v := (56 : Int32)) hx hb dX10_edgeCount_22 (by decide) ?_
            refine w_ilt_f (tgt := 54) hx hb dX10_edgeCount_24 (by decide) (fun c8 => ?_) (fun c8 => ?_)
            · replace hF := ifn c8 hF
              obtain rfl := se1 hF
              subst hL
              exact Jr7 _ _ _ hH (lv_sub hl [0, 1, 2] rfl)
            · replace hF := ifp c8 hF
              refine lv_iload_n hx hb dX10_edgeCount_27 rfl (lv_at hl 1 rfl) ?_
              refine lv_aload_n hx hb dX10_edgeCount_28 rfl (lv_at hl 0 rfl) ?_
              refine w_getr X hH hk0 fs_10_37 lk_10_70 dX10_edgeCount_29 ?_
              refine lv_iload_n hx hb dX10_edgeCount_32 rfl (lv_at hl 2 rfl) ?_
              obtain ⟨x10, h10, hF⟩ := ob hF
              refine w_lald X hH h10 (rt_M_10_37 hk0) dX10_edgeCount_33 ?_
              refine lv_iload_n hx hb dX10_edgeCount_34 rfl (lv_at hl 3 rfl) ?_
              refine w_callS (As := [.long (x10), .int (s6.2)]) (rest := [.int (s6.1)]) (st1 := [.int (bI ((f_X10_hasBit (x10) (s6.2)))), .int (s6.1)]) X hH (c_X10_hasBit (l := l) (g := g) (w := w2) (v_set := x10) (v_k := s6.2) rfl) (Or.inl tw_7_47) ms_X10_hasBit tw_7_48 ⟨Nat.le_of_ble_eq_true rfl, Nat.le_of_ble_eq_true rfl⟩ rfl rfl hl.1 (Nat.le_of_ble_eq_true rfl) dX10_edgeCount_35 ⟨Nat.le_refl _, Nat.le_refl _⟩ rfl (fun H locs hH => ?_)
              have J9 : ∀ (H : Heap) (locs : List Loc), HW zM g w2 s.heap H locs → W p l e (rmd 3) s m args below meth c H locs 0 0 (MQ below (Qw zM g wz (some (.int (rz)))) args s 0 0 (zA zM g)) (F0 m 46 ls [.int ((if (f_X10_hasBit (x10) (s6.2)) = true then (1 : Int32) else (0 : Int32))), .int (s6.1)]) := by
                intro H locs hH
                refine lv_iadd hx hb dX10_edgeCount_46 ?_
                refine lv_istore_n (lv' := [(1, .int ((s6.1 + (if (f_X10_hasBit (x10) (s6.2)) = true then (1 : Int32) else (0 : Int32))))), (0, .ref (g.2.2 (k0))), (2, .int (s3.2)), (3, .int (s6.2))]) hx hb dX10_edgeCount_47 rfl hl (by decide) rfl (fun ls hl => ?_)
                refine lv_iinc (v := (s6.2 + (1 : Int32))) (lv' := [(3, .int ((s6.2 + (1 : Int32)))), (1, .int ((s6.1 + (if (f_X10_hasBit (x10) (s6.2)) = true then (1 : Int32) else (0 : Int32))))), (0, .ref (g.2.2 (k0))), (2, .int (s3.2))]) hx hb dX10_edgeCount_48 hl (k := 3) rfl rfl (by decide) rfl (fun ls hl => ?_)
                refine lv_goto (tgt := 21) hx hb dX10_edgeCount_51 (by decide) ?_
                obtain rfl := se1 hF
                exact ih _ hL _ _ _ hH (lv_sub hl [2, 1, 3, 0] rfl)
              refine w_b_f (tgt := 45) hx hb dX10_edgeCount_38 (by decide) (fun c11 => ?_) (fun c11 => ?_)
              · refine lv_iconst (v := (0 : Int32)) hx hb dX10_edgeCount_45 (by decide) ?_
                exact w_in c11 (J9 _ _ hH)
              · refine lv_iconst (v := (1 : Int32)) hx hb dX10_edgeCount_41 (by decide) ?_
                refine lv_goto (tgt := 46) hx hb dX10_edgeCount_42 (by decide) ?_
                exact w_ip c11 (J9 _ _ hH)
        exact Lr7 NF _ hLr7 _ _ _ hH (lv_sub hl [1, 2, 3, 0] rfl)
  exact Lr4 NF _ hLr4 _ _ _ hH (lv_sub hl [2, 1, 0] rfl)

theorem dX10_hasEdge_0 : decode cX10_hasEdge 0 = .ok (.aload_n 0, 1) := by decide +kernel
theorem dX10_hasEdge_1 : decode cX10_hasEdge 1 = .ok (.iconst 0, 1) := by decide +kernel
theorem dX10_hasEdge_2 : decode cX10_hasEdge 2 = .ok (.putfield 85, 3) := by decide +kernel
theorem dX10_hasEdge_5 : decode cX10_hasEdge 5 = .ok (.aload_n 0, 1) := by decide +kernel
theorem dX10_hasEdge_6 : decode cX10_hasEdge 6 = .ok (.iload_n 1, 1) := by decide +kernel
theorem dX10_hasEdge_7 : decode cX10_hasEdge 7 = .ok (.invokevirtual 263, 3) := by decide +kernel
theorem dX10_hasEdge_10 : decode cX10_hasEdge 10 = .ok (.istore_n 3, 1) := by decide +kernel
theorem dX10_hasEdge_11 : decode cX10_hasEdge 11 = .ok (.aload_n 0, 1) := by decide +kernel
theorem dX10_hasEdge_12 : decode cX10_hasEdge 12 = .ok (.iload_n 2, 1) := by decide +kernel
theorem dX10_hasEdge_13 : decode cX10_hasEdge 13 = .ok (.invokevirtual 263, 3) := by decide +kernel
theorem dX10_hasEdge_16 : decode cX10_hasEdge 16 = .ok (.istore 4, 2) := by decide +kernel
theorem dX10_hasEdge_18 : decode cX10_hasEdge 18 = .ok (.iload_n 3, 1) := by decide +kernel
theorem dX10_hasEdge_19 : decode cX10_hasEdge 19 = .ok (.ifCond .lt 14, 3) := by decide +kernel
theorem dX10_hasEdge_22 : decode cX10_hasEdge 22 = .ok (.iload 4, 2) := by decide +kernel
theorem dX10_hasEdge_24 : decode cX10_hasEdge 24 = .ok (.ifCond .lt 9, 3) := by decide +kernel
theorem dX10_hasEdge_27 : decode cX10_hasEdge 27 = .ok (.iload_n 3, 1) := by decide +kernel
theorem dX10_hasEdge_28 : decode cX10_hasEdge 28 = .ok (.iload 4, 2) := by decide +kernel
theorem dX10_hasEdge_30 : decode cX10_hasEdge 30 = .ok (.if_icmp .ne 5, 3) := by decide +kernel
theorem dX10_hasEdge_33 : decode cX10_hasEdge 33 = .ok (.iconst (-1), 1) := by decide +kernel
theorem dX10_hasEdge_34 : decode cX10_hasEdge 34 = .ok (.ireturn, 1) := by decide +kernel
theorem dX10_hasEdge_35 : decode cX10_hasEdge 35 = .ok (.aload_n 0, 1) := by decide +kernel
theorem dX10_hasEdge_36 : decode cX10_hasEdge 36 = .ok (.invokevirtual 332, 3) := by decide +kernel
theorem dX10_hasEdge_39 : decode cX10_hasEdge 39 = .ok (.aload_n 0, 1) := by decide +kernel
theorem dX10_hasEdge_40 : decode cX10_hasEdge 40 = .ok (.getfield 70, 3) := by decide +kernel
theorem dX10_hasEdge_43 : decode cX10_hasEdge 43 = .ok (.iload_n 3, 1) := by decide +kernel
theorem dX10_hasEdge_44 : decode cX10_hasEdge 44 = .ok (.laload, 1) := by decide +kernel
theorem dX10_hasEdge_45 : decode cX10_hasEdge 45 = .ok (.iload 4, 2) := by decide +kernel
theorem dX10_hasEdge_47 : decode cX10_hasEdge 47 = .ok (.invokestatic 335, 3) := by decide +kernel
theorem dX10_hasEdge_50 : decode cX10_hasEdge 50 = .ok (.ifCond .eq 7, 3) := by decide +kernel
theorem dX10_hasEdge_53 : decode cX10_hasEdge 53 = .ok (.iconst 1, 1) := by decide +kernel
theorem dX10_hasEdge_54 : decode cX10_hasEdge 54 = .ok (.goto 4, 3) := by decide +kernel
theorem dX10_hasEdge_57 : decode cX10_hasEdge 57 = .ok (.iconst 0, 1) := by decide +kernel
theorem dX10_hasEdge_58 : decode cX10_hasEdge 58 = .ok (.ireturn, 1) := by decide +kernel
set_option maxHeartbeats 4000000 in
set_option maxRecDepth 100000 in
theorem c_X10_hasEdge {l : Launch} {g : Gh} {w : Wd} {k0 : Nat} {v_from : Int32} {v_to : Int32} {rz : Int32} {wz : Wd} (hF : f_X10_hasEdge w k0 v_from v_to = some (rz, wz)) (hk0 : zct zM k0 = 10) : Met l yX10_hasEdge (Cond.code yX10_hasEdge cX10_hasEdge 5 (some .int) :: TT) (rmd 3) (Pcw zM g w [.ref (g.2.2 k0), .int (v_from), .int (v_to)]) (Qw zM g wz (some (.int (rz)))) 0 0 (zA zM g) := by
  refine mt_start (by decide) (Nat.le_of_ble_eq_true rfl) ?_
  intro p e s m args below meth c H locs ls X hr hl hH
  have hx := X.1
  have hb := X.2.1
  have hml := X.2.2.1
  have hown := X.2.2.2.1
  have ht := X.2.2.2.2.1
  have hl : lv_has ls 5 [(0, .ref (g.2.2 (k0))), (1, .int (v_from)), (2, .int (v_to))] := hl
  unfold f_X10_hasEdge at hF
  refine lv_aload_n hx hb dX10_hasEdge_0 rfl (lv_at hl 0 rfl) ?_
  refine lv_iconst (v := (0 : Int32)) hx hb dX10_hasEdge_1 (by decide) ?_
  obtain ⟨w1, h1, hF⟩ := ob hF
  refine w_puti X hH h1 hk0 fs_10_0 nf_10_0 lk_10_85 dX10_hasEdge_2 (fun H locs hH => ?_)
  refine lv_aload_n hx hb dX10_hasEdge_5 rfl (lv_at hl 0 rfl) ?_
  refine lv_iload_n hx hb dX10_hasEdge_6 rfl (lv_at hl 1 rfl) ?_
  obtain ⟨x2, h2, hF⟩ := ob hF
  refine w_callV (As := [.int (v_from)]) (k := k0) (rest := []) (st1 := [.int (x2)]) X hH (c_X10_indexOf (l := l) (g := g) (w := w1) (k0 := k0) (v_location := v_from) h2 hk0) (Or.inl tw_6_172) ms_X10_indexOf im_X10_indexOf hk0 cn_10 ⟨Nat.le_of_ble_eq_true rfl, Nat.le_of_ble_eq_true rfl⟩ rfl rfl hl.1 (Nat.le_of_ble_eq_true rfl) dX10_hasEdge_7 ⟨Nat.le_refl _, Nat.le_refl _⟩ rfl (fun H locs hH => ?_)
  refine lv_istore_n (lv' := [(3, .int (x2)), (0, .ref (g.2.2 (k0))), (1, .int (v_from)), (2, .int (v_to))]) hx hb dX10_hasEdge_10 rfl hl (by decide) rfl (fun ls hl => ?_)
  refine lv_aload_n hx hb dX10_hasEdge_11 rfl (lv_at hl 1 rfl) ?_
  refine lv_iload_n hx hb dX10_hasEdge_12 rfl (lv_at hl 3 rfl) ?_
  obtain ⟨x3, h3, hF⟩ := ob hF
  refine w_callV (As := [.int (v_to)]) (k := k0) (rest := []) (st1 := [.int (x3)]) X hH (c_X10_indexOf (l := l) (g := g) (w := w1) (k0 := k0) (v_location := v_to) h3 hk0) (Or.inl tw_6_172) ms_X10_indexOf im_X10_indexOf hk0 cn_10 ⟨Nat.le_of_ble_eq_true rfl, Nat.le_of_ble_eq_true rfl⟩ rfl rfl hl.1 (Nat.le_of_ble_eq_true rfl) dX10_hasEdge_13 ⟨Nat.le_refl _, Nat.le_refl _⟩ rfl (fun H locs hH => ?_)
  refine lv_istore (lv' := [(4, .int (x3)), (3, .int (x2)), (0, .ref (g.2.2 (k0))), (1, .int (v_from)), (2, .int (v_to))]) hx hb dX10_hasEdge_16 hl (by decide) rfl (fun ls hl => ?_)
  refine lv_iload_n hx hb dX10_hasEdge_18 rfl (lv_at hl 1 rfl) ?_
  have J4T : ((x2 < (0 : Int32)) ∨ (x3 < (0 : Int32))) ∨ (x2 = x3) → ∀ (H : Heap) (locs : List Loc), HW zM g w1 s.heap H locs → W p l e (rmd 3) s m args below meth c H locs 0 0 (MQ below (Qw zM g wz (some (.int (rz)))) args s 0 0 (zA zM g)) (F0 m 33 ls []) := by
    intro hc H locs hH
    replace hF := ifp hc hF
    refine lv_iconst (v := (-1 : Int32)) hx hb dX10_hasEdge_33 (by decide) ?_
    obtain ⟨rfl, rfl⟩ := se2 hF
    exact w_iret X hH hr dX10_hasEdge_34
  have J4F : ¬ (((x2 < (0 : Int32)) ∨ (x3 < (0 : Int32))) ∨ (x2 = x3)) → ∀ (H : Heap) (locs : List Loc), HW zM g w1 s.heap H locs → W p l e (rmd 3) s m args below meth c H locs 0 0 (MQ below (Qw zM g wz (some (.int (rz)))) args s 0 0 (zA zM g)) (F0 m 35 ls []) := by
    intro hc H locs hH
    replace hF := ifn hc hF
    refine lv_aload_n hx hb dX10_hasEdge_35 rfl (lv_at hl 2 rfl) ?_
    obtain ⟨w8, h8, hF⟩ := ob hF
    refine w_callV (As := []) (k := k0) (rest := []) (st1 := []) X hH (c_X10_layEdges (l := l) (g := g) (w := w1) (k0 := k0) h8 hk0) (Or.inl tw_7_39) ms_X10_layEdges im_X10_layEdges hk0 cn_10 ⟨Nat.le_of_ble_eq_true rfl, Nat.le_of_ble_eq_true rfl⟩ rfl rfl hl.1 (Nat.le_of_ble_eq_true rfl) dX10_hasEdge_36 ⟨Nat.le_refl _, Nat.le_refl _⟩ rfl (fun H locs hH => ?_)
    refine lv_aload_n hx hb dX10_hasEdge_39 rfl (lv_at hl 2 rfl) ?_
    refine w_getr X hH hk0 fs_10_37 lk_10_70 dX10_hasEdge_40 ?_
    refine lv_iload_n hx hb dX10_hasEdge_43 rfl (lv_at hl 1 rfl) ?_
    obtain ⟨x10, h10, hF⟩ := ob hF
    refine w_lald X hH h10 (rt_M_10_37 hk0) dX10_hasEdge_44 ?_
    refine lv_iload hx hb dX10_hasEdge_45 (lv_at hl 0 rfl) ?_
    refine w_callS (As := [.long (x10), .int (x3)]) (rest := []) (st1 := [.int (bI ((f_X10_hasBit (x10) (x3))))]) X hH (c_X10_hasBit (l := l) (g := g) (w := w8) (v_set := x10) (v_k := x3) rfl) (Or.inl tw_7_47) ms_X10_hasBit tw_7_48 ⟨Nat.le_of_ble_eq_true rfl, Nat.le_of_ble_eq_true rfl⟩ rfl rfl hl.1 (Nat.le_of_ble_eq_true rfl) dX10_hasEdge_47 ⟨Nat.le_refl _, Nat.le_refl _⟩ rfl (fun H locs hH => ?_)
    have J9 : ∀ (H : Heap) (locs : List Loc), HW zM g w8 s.heap H locs → W p l e (rmd 3) s m args below meth c H locs 0 0 (MQ below (Qw zM g wz (some (.int (rz)))) args s 0 0 (zA zM g)) (F0 m 58 ls [.int ((if (f_X10_hasBit (x10) (x3)) = true then (1 : Int32) else (0 : Int32)))]) := by
      intro H locs hH
      obtain ⟨rfl, rfl⟩ := se2 hF
      exact w_iret X hH hr dX10_hasEdge_58
    refine w_b_f (tgt := 57) hx hb dX10_hasEdge_50 (by decide) (fun c11 => ?_) (fun c11 => ?_)
    · refine lv_iconst (v := (0 : Int32)) hx hb dX10_hasEdge_57 (by decide) ?_
      exact w_in c11 (J9 _ _ hH)
    · refine lv_iconst (v := (1 : Int32)) hx hb dX10_hasEdge_53 (by decide) ?_
      refine lv_goto (tgt := 58) hx hb dX10_hasEdge_54 (by decide) ?_
      exact w_ip c11 (J9 _ _ hH)
  refine w_zlt_t (tgt := 33) hx hb dX10_hasEdge_19 (by decide) (fun c5 => ?_) (fun c5 => ?_)
  · exact J4T (Or.inl (Or.inl c5)) _ _ hH
  · refine lv_iload hx hb dX10_hasEdge_22 (lv_at hl 0 rfl) ?_
    refine w_zlt_t (tgt := 33) hx hb dX10_hasEdge_24 (by decide) (fun c6 => ?_) (fun c6 => ?_)
    · exact J4T (Or.inl (Or.inr c6)) _ _ hH
    · refine lv_iload_n hx hb dX10_hasEdge_27 rfl (lv_at hl 1 rfl) ?_
      refine lv_iload hx hb dX10_hasEdge_28 (lv_at hl 0 rfl) ?_
      refine w_ieq_f (tgt := 35) hx hb dX10_hasEdge_30 (by decide) (fun c7 => ?_) (fun c7 => ?_)
      · exact J4F (fun z => z.elim (fun z => z.elim c5 c6) c7) _ _ hH
      · exact J4T (Or.inr c7) _ _ hH

theorem dX10_distance_0 : decode cX10_distance 0 = .ok (.aload_n 0, 1) := by decide +kernel
theorem dX10_distance_1 : decode cX10_distance 1 = .ok (.iconst 0, 1) := by decide +kernel
theorem dX10_distance_2 : decode cX10_distance 2 = .ok (.putfield 85, 3) := by decide +kernel
theorem dX10_distance_5 : decode cX10_distance 5 = .ok (.aload_n 0, 1) := by decide +kernel
theorem dX10_distance_6 : decode cX10_distance 6 = .ok (.iload_n 1, 1) := by decide +kernel
theorem dX10_distance_7 : decode cX10_distance 7 = .ok (.invokevirtual 263, 3) := by decide +kernel
theorem dX10_distance_10 : decode cX10_distance 10 = .ok (.istore_n 3, 1) := by decide +kernel
theorem dX10_distance_11 : decode cX10_distance 11 = .ok (.aload_n 0, 1) := by decide +kernel
theorem dX10_distance_12 : decode cX10_distance 12 = .ok (.iload_n 2, 1) := by decide +kernel
theorem dX10_distance_13 : decode cX10_distance 13 = .ok (.invokevirtual 263, 3) := by decide +kernel
theorem dX10_distance_16 : decode cX10_distance 16 = .ok (.istore 4, 2) := by decide +kernel
theorem dX10_distance_18 : decode cX10_distance 18 = .ok (.iload_n 3, 1) := by decide +kernel
theorem dX10_distance_19 : decode cX10_distance 19 = .ok (.ifCond .lt 8, 3) := by decide +kernel
theorem dX10_distance_22 : decode cX10_distance 22 = .ok (.iload 4, 2) := by decide +kernel
theorem dX10_distance_24 : decode cX10_distance 24 = .ok (.ifCond .ge 5, 3) := by decide +kernel
theorem dX10_distance_27 : decode cX10_distance 27 = .ok (.iconst (-1), 1) := by decide +kernel
theorem dX10_distance_28 : decode cX10_distance 28 = .ok (.ireturn, 1) := by decide +kernel
theorem dX10_distance_29 : decode cX10_distance 29 = .ok (.aload_n 0, 1) := by decide +kernel
theorem dX10_distance_30 : decode cX10_distance 30 = .ok (.invokevirtual 332, 3) := by decide +kernel
theorem dX10_distance_33 : decode cX10_distance 33 = .ok (.lconst 1, 1) := by decide +kernel
theorem dX10_distance_34 : decode cX10_distance 34 = .ok (.iload_n 3, 1) := by decide +kernel
theorem dX10_distance_35 : decode cX10_distance 35 = .ok (.lshl, 1) := by decide +kernel
theorem dX10_distance_36 : decode cX10_distance 36 = .ok (.lstore 5, 2) := by decide +kernel
theorem dX10_distance_38 : decode cX10_distance 38 = .ok (.iconst 0, 1) := by decide +kernel
theorem dX10_distance_39 : decode cX10_distance 39 = .ok (.istore 7, 2) := by decide +kernel
theorem dX10_distance_41 : decode cX10_distance 41 = .ok (.iload 7, 2) := by decide +kernel
theorem dX10_distance_43 : decode cX10_distance 43 = .ok (.bipush 56, 2) := by decide +kernel
theorem dX10_distance_45 : decode cX10_distance 45 = .ok (.if_icmp .ge 72, 3) := by decide +kernel
theorem dX10_distance_48 : decode cX10_distance 48 = .ok (.lload 5, 2) := by decide +kernel
theorem dX10_distance_50 : decode cX10_distance 50 = .ok (.iload 4, 2) := by decide +kernel
theorem dX10_distance_52 : decode cX10_distance 52 = .ok (.invokestatic 335, 3) := by decide +kernel
theorem dX10_distance_55 : decode cX10_distance 55 = .ok (.ifCond .eq 6, 3) := by decide +kernel
theorem dX10_distance_58 : decode cX10_distance 58 = .ok (.iload 7, 2) := by decide +kernel
theorem dX10_distance_60 : decode cX10_distance 60 = .ok (.ireturn, 1) := by decide +kernel
theorem dX10_distance_61 : decode cX10_distance 61 = .ok (.lload 5, 2) := by decide +kernel
theorem dX10_distance_63 : decode cX10_distance 63 = .ok (.lstore 8, 2) := by decide +kernel
theorem dX10_distance_65 : decode cX10_distance 65 = .ok (.iconst 0, 1) := by decide +kernel
theorem dX10_distance_66 : decode cX10_distance 66 = .ok (.istore 10, 2) := by decide +kernel
theorem dX10_distance_68 : decode cX10_distance 68 = .ok (.iload 10, 2) := by decide +kernel
theorem dX10_distance_70 : decode cX10_distance 70 = .ok (.bipush 56, 2) := by decide +kernel
theorem dX10_distance_72 : decode cX10_distance 72 = .ok (.if_icmp .ge 35, 3) := by decide +kernel
theorem dX10_distance_75 : decode cX10_distance 75 = .ok (.lload 8, 2) := by decide +kernel
theorem dX10_distance_77 : decode cX10_distance 77 = .ok (.lload 5, 2) := by decide +kernel
theorem dX10_distance_79 : decode cX10_distance 79 = .ok (.iload 10, 2) := by decide +kernel
theorem dX10_distance_81 : decode cX10_distance 81 = .ok (.invokestatic 335, 3) := by decide +kernel
theorem dX10_distance_84 : decode cX10_distance 84 = .ok (.ifCond .eq 13, 3) := by decide +kernel
theorem dX10_distance_87 : decode cX10_distance 87 = .ok (.aload_n 0, 1) := by decide +kernel
theorem dX10_distance_88 : decode cX10_distance 88 = .ok (.getfield 70, 3) := by decide +kernel
theorem dX10_distance_91 : decode cX10_distance 91 = .ok (.iload 10, 2) := by decide +kernel
theorem dX10_distance_93 : decode cX10_distance 93 = .ok (.laload, 1) := by decide +kernel
theorem dX10_distance_94 : decode cX10_distance 94 = .ok (.goto 4, 3) := by decide +kernel
theorem dX10_distance_97 : decode cX10_distance 97 = .ok (.lconst 0, 1) := by decide +kernel
theorem dX10_distance_98 : decode cX10_distance 98 = .ok (.lor, 1) := by decide +kernel
theorem dX10_distance_99 : decode cX10_distance 99 = .ok (.lstore 8, 2) := by decide +kernel
theorem dX10_distance_101 : decode cX10_distance 101 = .ok (.iinc 10 1, 3) := by decide +kernel
theorem dX10_distance_104 : decode cX10_distance 104 = .ok (.goto (-36), 3) := by decide +kernel
theorem dX10_distance_107 : decode cX10_distance 107 = .ok (.lload 8, 2) := by decide +kernel
theorem dX10_distance_109 : decode cX10_distance 109 = .ok (.lstore 5, 2) := by decide +kernel
theorem dX10_distance_111 : decode cX10_distance 111 = .ok (.iinc 7 1, 3) := by decide +kernel
theorem dX10_distance_114 : decode cX10_distance 114 = .ok (.goto (-73), 3) := by decide +kernel
theorem dX10_distance_117 : decode cX10_distance 117 = .ok (.bipush (-2), 2) := by decide +kernel
theorem dX10_distance_119 : decode cX10_distance 119 = .ok (.ireturn, 1) := by decide +kernel
set_option maxHeartbeats 4000000 in
set_option maxRecDepth 100000 in
theorem c_X10_distance {l : Launch} {g : Gh} {w : Wd} {k0 : Nat} {v_from : Int32} {v_to : Int32} {rz : Int32} {wz : Wd} (hF : f_X10_distance w k0 v_from v_to = some (rz, wz)) (hk0 : zct zM k0 = 10) : Met l yX10_distance (Cond.code yX10_distance cX10_distance 11 (some .int) :: TT) (rmd 3) (Pcw zM g w [.ref (g.2.2 k0), .int (v_from), .int (v_to)]) (Qw zM g wz (some (.int (rz)))) 0 0 (zA zM g) := by
  refine mt_start (by decide) (Nat.le_of_ble_eq_true rfl) ?_
  intro p e s m args below meth c H locs ls X hr hl hH
  have hx := X.1
  have hb := X.2.1
  have hml := X.2.2.1
  have hown := X.2.2.2.1
  have ht := X.2.2.2.2.1
  have hl : lv_has ls 11 [(0, .ref (g.2.2 (k0))), (1, .int (v_from)), (2, .int (v_to))] := hl
  unfold f_X10_distance at hF
  refine lv_aload_n hx hb dX10_distance_0 rfl (lv_at hl 0 rfl) ?_
  refine lv_iconst (v := (0 : Int32)) hx hb dX10_distance_1 (by decide) ?_
  obtain ⟨w1, h1, hF⟩ := ob hF
  refine w_puti X hH h1 hk0 fs_10_0 nf_10_0 lk_10_85 dX10_distance_2 (fun H locs hH => ?_)
  refine lv_aload_n hx hb dX10_distance_5 rfl (lv_at hl 0 rfl) ?_
  refine lv_iload_n hx hb dX10_distance_6 rfl (lv_at hl 1 rfl) ?_
  obtain ⟨x2, h2, hF⟩ := ob hF
  refine w_callV (As := [.int (v_from)]) (k := k0) (rest := []) (st1 := [.int (x2)]) X hH (c_X10_indexOf (l := l) (g := g) (w := w1) (k0 := k0) (v_location := v_from) h2 hk0) (Or.inl tw_6_172) ms_X10_indexOf im_X10_indexOf hk0 cn_10 ⟨Nat.le_of_ble_eq_true rfl, Nat.le_of_ble_eq_true rfl⟩ rfl rfl hl.1 (Nat.le_of_ble_eq_true rfl) dX10_distance_7 ⟨Nat.le_refl _, Nat.le_refl _⟩ rfl (fun H locs hH => ?_)
  refine lv_istore_n (lv' := [(3, .int (x2)), (0, .ref (g.2.2 (k0))), (1, .int (v_from)), (2, .int (v_to))]) hx hb dX10_distance_10 rfl hl (by decide) rfl (fun ls hl => ?_)
  refine lv_aload_n hx hb dX10_distance_11 rfl (lv_at hl 1 rfl) ?_
  refine lv_iload_n hx hb dX10_distance_12 rfl (lv_at hl 3 rfl) ?_
  obtain ⟨x3, h3, hF⟩ := ob hF
  refine w_callV (As := [.int (v_to)]) (k := k0) (rest := []) (st1 := [.int (x3)]) X hH (c_X10_indexOf (l := l) (g := g) (w := w1) (k0 := k0) (v_location := v_to) h3 hk0) (Or.inl tw_6_172) ms_X10_indexOf im_X10_indexOf hk0 cn_10 ⟨Nat.le_of_ble_eq_true rfl, Nat.le_of_ble_eq_true rfl⟩ rfl rfl hl.1 (Nat.le_of_ble_eq_true rfl) dX10_distance_13 ⟨Nat.le_refl _, Nat.le_refl _⟩ rfl (fun H locs hH => ?_)
  refine lv_istore (lv' := [(4, .int (x3)), (3, .int (x2)), (0, .ref (g.2.2 (k0))), (1, .int (v_from)), (2, .int (v_to))]) hx hb dX10_distance_16 hl (by decide) rfl (fun ls hl => ?_)
  refine lv_iload_n hx hb dX10_distance_18 rfl (lv_at hl 1 rfl) ?_
  have J4T : (x2 < (0 : Int32)) ∨ (x3 < (0 : Int32)) → ∀ (H : Heap) (locs : List Loc), HW zM g w1 s.heap H locs → W p l e (rmd 3) s m args below meth c H locs 0 0 (MQ below (Qw zM g wz (some (.int (rz)))) args s 0 0 (zA zM g)) (F0 m 27 ls []) := by
    intro hc H locs hH
    replace hF := ifp hc hF
    refine lv_iconst (v := (-1 : Int32)) hx hb dX10_distance_27 (by decide) ?_
    obtain ⟨rfl, rfl⟩ := se2 hF
    exact w_iret X hH hr dX10_distance_28
  have J4F : ¬ ((x2 < (0 : Int32)) ∨ (x3 < (0 : Int32))) → ∀ (H : Heap) (locs : List Loc), HW zM g w1 s.heap H locs → W p l e (rmd 3) s m args below meth c H locs 0 0 (MQ below (Qw zM g wz (some (.int (rz)))) args s 0 0 (zA zM g)) (F0 m 29 ls []) := by
    intro hc H locs hH
    replace hF := ifn hc hF
    refine lv_aload_n hx hb dX10_distance_29 rfl (lv_at hl 2 rfl) ?_
    obtain ⟨w7, h7, hF⟩ := ob hF
    refine w_callV (As := []) (k := k0) (rest := []) (st1 := []) X hH (c_X10_layEdges (l := l) (g := g) (w := w1) (k0 := k0) h7 hk0) (Or.inl tw_7_39) ms_X10_layEdges im_X10_layEdges hk0 cn_10 ⟨Nat.le_of_ble_eq_true rfl, Nat.le_of_ble_eq_true rfl⟩ rfl rfl hl.1 (Nat.le_of_ble_eq_true rfl) dX10_distance_30 ⟨Nat.le_refl _, Nat.le_refl _⟩ rfl (fun H locs hH => ?_)
    refine lv_lconst (v := 1) hx hb dX10_distance_33 (by decide) ?_
    refine lv_iload_n hx hb dX10_distance_34 rfl (lv_at hl 1 rfl) ?_
    refine w_lshl hx hb dX10_distance_35 ?_
    refine lv_lstore (lv' := [(5, .long ((jlshl ((1 : Int64)) (x2)))), (4, .int (x3)), (3, .int (x2)), (0, .ref (g.2.2 (k0))), (1, .int (v_from)), (2, .int (v_to))]) hx hb dX10_distance_36 hl (by decide) rfl (fun ls hl => ?_)
    refine lv_iconst (v := (0 : Int32)) hx hb dX10_distance_38 (by decide) ?_
    refine lv_istore (lv' := [(7, .int ((0 : Int32))), (5, .long ((jlshl ((1 : Int64)) (x2)))), (4, .int (x3)), (3, .int (x2)), (0, .ref (g.2.2 (k0))), (1, .int (v_from)), (2, .int (v_to))]) hx hb dX10_distance_39 hl (by decide) rfl (fun ls hl => ?_)
    obtain ⟨r9, hLr9, hF⟩ := ob hF
    have Jr9 : ∀ r9x, r9 = .inl r9x → ∀ (H : Heap) (locs : List Loc) (ls : Array Slot), HW zM g w7 s.heap H locs → lv_has ls 11 [(0, .ref (g.2.2 (k0))), (1, .int (v_from)), (2, .int (v_to)), (3, .int (x2)), (4, .int (x3)), (5, .long (r9x))] → W p l e (rmd 3) s m args below meth c H locs 0 0 (MQ below (Qw zM g wz (some (.int (rz)))) args s 0 0 (zA zM g)) (F0 m 117 ls []) := by
      intro r9x hrx H locs ls hH hl
      rw [hrx] at hF
      dsimp only at hF
      refine lv_bipush (v := (-2 : Int32)) hx hb dX10_distance_117 (by decide) ?_
      obtain ⟨rfl, rfl⟩ := se2 hF
      exact w_iret X hH hr dX10_distance_119
    have hor9 := hF
    have Lr9 : ∀ (n : Nat) (s8 : Int64 × Int32), lp (b_X10_distance_1 x3 w7 k0) n s8 = some r9 → ∀ (H : Heap) (locs : List Loc) (ls : Array Slot), HW zM g w7 s.heap H locs → lv_has ls 11 [(0, .ref (g.2.2 (k0))), (1, .int (v_from)), (2, .int (v_to)), (3, .int (x2)), (4, .int (x3)), (5, .long (s8.1)), (7, .int (s8.2))] → W p l e (rmd 3) s m args below meth c H locs 0 0 (MQ below (Qw zM g wz (some (.int (rz)))) args s 0 0 (zA zM g)) (F0 m 41 ls []) := by
      intro n
      induction n with
      | zero => intro s8 hL; exact lp_0 hL
      | succ n ih =>
        intro s8 hL H locs ls hH hl
        obtain ⟨bb, hF, hL⟩ := lp_s hL
        unfold b_X10_distance_1 at hF
        refine lv_iload hx hb dX10_distance_41 (lv_at hl 6 rfl) ?_
        refine lv_bipush (v := (56 : Int32)) hx hb dX10_distance_43 (by decide) ?_
        refine w_ilt_f (tgt := 117) hx hb dX10_distance_45 (by decide) (fun c10 => ?_) (fun c10 => ?_)
        · replace hF := ifn c10 hF
          obtain rfl := se1 hF
          subst hL
          exact Jr9 _ rfl _ _ _ hH (lv_sub hl [0, 1, 2, 3, 4, 5] rfl)
        · replace hF := ifp c10 hF
          refine lv_lload hx hb dX10_distance_48 (lv_at hl 5 rfl) ?_
          refine lv_iload hx hb dX10_distance_50 (lv_at hl 4 rfl) ?_
          refine w_callS (As := [.long (s8.1), .int (x3)]) (rest := []) (st1 := [.int (bI ((f_X10_hasBit (s8.1) (x3))))]) X hH (c_X10_hasBit (l := l) (g := g) (w := w7) (v_set := s8.1) (v_k := x3) rfl) (Or.inl tw_7_47) ms_X10_hasBit tw_7_48 ⟨Nat.le_of_ble_eq_true rfl, Nat.le_of_ble_eq_true rfl⟩ rfl rfl hl.1 (Nat.le_of_ble_eq_true rfl) dX10_distance_52 ⟨Nat.le_refl _, Nat.le_refl _⟩ rfl (fun H locs hH => ?_)
          refine w_b_f (tgt := 61) hx hb dX10_distance_55 (by decide) (fun c11 => ?_) (fun c11 => ?_)
          · replace hF := ifn c11 hF
            refine lv_lload hx hb dX10_distance_61 (lv_at hl 5 rfl) ?_
            refine lv_lstore (lv' := [(8, .long (s8.1)), (0, .ref (g.2.2 (k0))), (1, .int (v_from)), (2, .int (v_to)), (3, .int (x2)), (4, .int (x3)), (5, .long (s8.1)), (7, .int (s8.2))]) hx hb dX10_distance_63 hl (by decide) rfl (fun ls hl => ?_)
            refine lv_iconst (v := (0 : Int32)) hx hb dX10_distance_65 (by decide) ?_
            refine lv_istore (lv' := [(10, .int ((0 : Int32))), (8, .long (s8.1)), (0, .ref (g.2.2 (k0))), (1, .int (v_from)), (2, .int (v_to)), (3, .int (x2)), (4, .int (x3)), (5, .long (s8.1)), (7, .int (s8.2))]) hx hb dX10_distance_66 hl (by decide) rfl (fun ls hl => ?_)
            obtain ⟨r13, hLr13, hF⟩ := ob hF
            have Jr13 : ∀ (H : Heap) (locs : List Loc) (ls : Array Slot), HW zM g w7 s.heap H locs → lv_has ls 11 [(0, .ref (g.2.2 (k0))), (1, .int (v_from)), (2, .int (v_to)), (3, .int (x2)), (4, .int (x3)), (5, .long (s8.1)), (7, .int (s8.2)), (8, .long (r13))] → W p l e (rmd 3) s m args below meth c H locs 0 0 (MQ below (Qw zM g wz (some (.int (rz)))) args s 0 0 (zA zM g)) (F0 m 107 ls []) := by
              intro H locs ls hH hl
              refine lv_lload hx hb dX10_distance_107 (lv_at hl 7 rfl) ?_
              refine lv_lstore (lv' := [(5, .long (r13)), (0, .ref (g.2.2 (k0))), (1, .int (v_from)), (2, .int (v_to)), (3, .int (x2)), (4, .int (x3)), (7, .int (s8.2)), (8, .long (r13))]) hx hb dX10_distance_109 hl (by decide) rfl (fun ls hl => ?_)
              refine lv_iinc (v := (s8.2 + (1 : Int32))) (lv' := [(7, .int ((s8.2 + (1 : Int32)))), (5, .long (r13)), (0, .ref (g.2.2 (k0))), (1, .int (v_from)), (2, .int (v_to)), (3, .int (x2)), (4, .int (x3)), (8, .long (r13))]) hx hb dX10_distance_111 hl (k := 6) rfl rfl (by decide) rfl (fun ls hl => ?_)
              refine lv_goto (tgt := 41) hx hb dX10_distance_114 (by decide) ?_
              obtain rfl := se1 hF
              exact ih _ hL _ _ _ hH (lv_sub hl [2, 3, 4, 5, 6, 1, 0] rfl)
            have Lr13 : ∀ (n : Nat) (s12 : Int64 × Int32), lp (b_X10_distance_2 s8 w7 k0) n s12 = some r13 → ∀ (H : Heap) (locs : List Loc) (ls : Array Slot), HW zM g w7 s.heap H locs → lv_has ls 11 [(0, .ref (g.2.2 (k0))), (1, .int (v_from)), (2, .int (v_to)), (3, .int (x2)), (4, .int (x3)), (5, .long (s8.1)), (7, .int (s8.2)), (8, .long (s12.1)), (10, .int (s12.2))] → W p l e (rmd 3) s m args below meth c H locs 0 0 (MQ below (Qw zM g wz (some (.int (rz)))) args s 0 0 (zA zM g)) (F0 m 68 ls []) := by
              intro n
              induction n with
              | zero => intro s12 hL; exact lp_0 hL
              | succ n ih =>
                intro s12 hL H locs ls hH hl
                obtain ⟨bb, hF, hL⟩ := lp_s hL
                unfold b_X10_distance_2 at hF
                refine lv_iload hx hb dX10_distance_68 (lv_at hl 8 rfl) ?_
                refine lv_bipush (v := (56 : Int32)) hx hb dX10_distance_70 (by decide) ?_
                refine w_ilt_f (tgt := 107) hx hb dX10_distance_72 (by decide) (fun c14 => ?_) (fun c14 => ?_)
                · replace hF := ifn c14 hF
                  obtain rfl := se1 hF
                  subst hL
                  exact Jr13 _ _ _ hH (lv_sub hl [0, 1, 2, 3, 4, 5, 6, 7] rfl)
                · replace hF := ifp c14 hF
                  refine lv_lload hx hb dX10_distance_75 (lv_at hl 7 rfl) ?_
                  obtain ⟨x16, hx16, hF⟩ := ob hF
                  have J15 : ∀ (H : Heap) (locs : List Loc), HW zM g w7 s.heap H locs → W p l e (rmd 3) s m args below meth c H locs 0 0 (MQ below (Qw zM g wz (some (.int (rz)))) args s 0 0 (zA zM g)) (F0 m 98 ls [.long (x16), .long (s12.1)]) := by
                    intro H locs hH
                    refine lv_lor hx hb dX10_distance_98 ?_
                    refine lv_lstore (lv' := [(8, .long ((s12.1 ||| x16))), (0, .ref (g.2.2 (k0))), (1, .int (v_from)), (2, .int (v_to)), (3, .int (x2)), (4, .int (x3)), (5, .long (s8.1)), (7, .int (s8.2)), (10, .int (s12.2))]) hx hb dX10_distance_99 hl (by decide) rfl (fun ls hl => ?_)
                    refine lv_iinc (v := (s12.2 + (1 : Int32))) (lv' := [(10, .int ((s12.2 + (1 : Int32)))), (8, .long ((s12.1 ||| x16))), (0, .ref (g.2.2 (k0))), (1, .int (v_from)), (2, .int (v_to)), (3, .int (x2)), (4, .int (x3)), (5, .long (s8.1)), (7, .int (s8.2))]) hx hb dX10_distance_101 hl (k := 8) rfl rfl (by decide) rfl (fun ls hl => ?_)
                    refine lv_goto (tgt := 68) hx hb dX10_distance_104 (by decide) ?_
                    obtain rfl := se1 hF
                    exact ih _ hL _ _ _ hH (lv_sub hl [2, 3, 4, 5, 6, 7, 8, 1, 0] rfl)
                  have hF := hx16
                  refine lv_lload hx hb dX10_distance_77 (lv_at hl 5 rfl) ?_
                  refine lv_iload hx hb dX10_distance_79 (lv_at hl 8 rfl) ?_
                  refine w_callS (As := [.long (s8.1), .int (s12.2)]) (rest := [.long (s12.1)]) (st1 := [.int (bI ((f_X10_hasBit (s8.1) (s12.2)))), .long (s12.1)]) X hH (c_X10_hasBit (l := l) (g := g) (w := w7) (v_set := s8.1) (v_k := s12.2) rfl) (Or.inl tw_7_47) ms_X10_hasBit tw_7_48 ⟨Nat.le_of_ble_eq_true rfl, Nat.le_of_ble_eq_true rfl⟩ rfl rfl hl.1 (Nat.le_of_ble_eq_true rfl) dX10_distance_81 ⟨Nat.le_refl _, Nat.le_refl _⟩ rfl (fun H locs hH => ?_)
                  refine w_b_f (tgt := 97) hx hb dX10_distance_84 (by decide) (fun c17 => ?_) (fun c17 => ?_)
                  · replace hF := ifn c17 hF
                    refine lv_lconst (v := 0) hx hb dX10_distance_97 (by decide) ?_
                    obtain rfl := se1 hF
                    exact J15 _ _ hH
                  · replace hF := ifp c17 hF
                    refine lv_aload_n hx hb dX10_distance_87 rfl (lv_at hl 0 rfl) ?_
                    refine w_getr X hH hk0 fs_10_37 lk_10_70 dX10_distance_88 ?_
                    refine lv_iload hx hb dX10_distance_91 (lv_at hl 8 rfl) ?_
                    obtain ⟨x18, h18, hF⟩ := ob hF
                    refine w_lald X hH h18 (rt_M_10_37 hk0) dX10_distance_93 ?_
                    refine lv_goto (tgt := 98) hx hb dX10_distance_94 (by decide) ?_
                    obtain rfl := se1 hF
                    exact J15 _ _ hH
            exact Lr13 NF _ hLr13 _ _ _ hH (lv_sub hl [2, 3, 4, 5, 6, 7, 8, 1, 0] rfl)
          · replace hF := ifp c11 hF
            refine lv_iload hx hb dX10_distance_58 (lv_at hl 6 rfl) ?_
            obtain rfl := se1 hF
            subst hL
            have hF := hor9
            obtain ⟨rfl, rfl⟩ := se2 hF
            exact w_iret X hH hr dX10_distance_60
    exact Lr9 NF _ hLr9 _ _ _ hH (lv_sub hl [4, 5, 6, 3, 2, 1, 0] rfl)
  refine w_zlt_t (tgt := 27) hx hb dX10_distance_19 (by decide) (fun c5 => ?_) (fun c5 => ?_)
  · exact J4T (Or.inl c5) _ _ hH
  · refine lv_iload hx hb dX10_distance_22 (lv_at hl 0 rfl) ?_
    refine w_zlt_f (tgt := 29) hx hb dX10_distance_24 (by decide) (fun c6 => ?_) (fun c6 => ?_)
    · exact J4F (fun z => z.elim c5 c6) _ _ hH
    · exact J4T (Or.inr c6) _ _ hH

theorem dX10_componentSize_0 : decode cX10_componentSize 0 = .ok (.aload_n 0, 1) := by decide +kernel
theorem dX10_componentSize_1 : decode cX10_componentSize 1 = .ok (.iconst 0, 1) := by decide +kernel
theorem dX10_componentSize_2 : decode cX10_componentSize 2 = .ok (.putfield 85, 3) := by decide +kernel
theorem dX10_componentSize_5 : decode cX10_componentSize 5 = .ok (.aload_n 0, 1) := by decide +kernel
theorem dX10_componentSize_6 : decode cX10_componentSize 6 = .ok (.iload_n 1, 1) := by decide +kernel
theorem dX10_componentSize_7 : decode cX10_componentSize 7 = .ok (.invokevirtual 263, 3) := by decide +kernel
theorem dX10_componentSize_10 : decode cX10_componentSize 10 = .ok (.istore_n 2, 1) := by decide +kernel
theorem dX10_componentSize_11 : decode cX10_componentSize 11 = .ok (.iload_n 2, 1) := by decide +kernel
theorem dX10_componentSize_12 : decode cX10_componentSize 12 = .ok (.ifCond .ge 5, 3) := by decide +kernel
theorem dX10_componentSize_15 : decode cX10_componentSize 15 = .ok (.iconst (-1), 1) := by decide +kernel
theorem dX10_componentSize_16 : decode cX10_componentSize 16 = .ok (.ireturn, 1) := by decide +kernel
theorem dX10_componentSize_17 : decode cX10_componentSize 17 = .ok (.aload_n 0, 1) := by decide +kernel
theorem dX10_componentSize_18 : decode cX10_componentSize 18 = .ok (.invokevirtual 342, 3) := by decide +kernel
theorem dX10_componentSize_21 : decode cX10_componentSize 21 = .ok (.aload_n 0, 1) := by decide +kernel
theorem dX10_componentSize_22 : decode cX10_componentSize 22 = .ok (.iload_n 2, 1) := by decide +kernel
theorem dX10_componentSize_23 : decode cX10_componentSize 23 = .ok (.invokevirtual 345, 3) := by decide +kernel
theorem dX10_componentSize_26 : decode cX10_componentSize 26 = .ok (.ireturn, 1) := by decide +kernel
set_option maxHeartbeats 4000000 in
set_option maxRecDepth 100000 in
theorem c_X10_componentSize {l : Launch} {g : Gh} {w : Wd} {k0 : Nat} {v_location : Int32} {rz : Int32} {wz : Wd} (hF : f_X10_componentSize w k0 v_location = some (rz, wz)) (hk0 : zct zM k0 = 10) : Met l yX10_componentSize (Cond.code yX10_componentSize cX10_componentSize 3 (some .int) :: TT) (rmd 4) (Pcw zM g w [.ref (g.2.2 k0), .int (v_location)]) (Qw zM g wz (some (.int (rz)))) 0 0 (zA zM g) := by
  refine mt_start (by decide) (Nat.le_of_ble_eq_true rfl) ?_
  intro p e s m args below meth c H locs ls X hr hl hH
  have hx := X.1
  have hb := X.2.1
  have hml := X.2.2.1
  have hown := X.2.2.2.1
  have ht := X.2.2.2.2.1
  have hl : lv_has ls 3 [(0, .ref (g.2.2 (k0))), (1, .int (v_location))] := hl
  unfold f_X10_componentSize at hF
  refine lv_aload_n hx hb dX10_componentSize_0 rfl (lv_at hl 0 rfl) ?_
  refine lv_iconst (v := (0 : Int32)) hx hb dX10_componentSize_1 (by decide) ?_
  obtain ⟨w1, h1, hF⟩ := ob hF
  refine w_puti X hH h1 hk0 fs_10_0 nf_10_0 lk_10_85 dX10_componentSize_2 (fun H locs hH => ?_)
  refine lv_aload_n hx hb dX10_componentSize_5 rfl (lv_at hl 0 rfl) ?_
  refine lv_iload_n hx hb dX10_componentSize_6 rfl (lv_at hl 1 rfl) ?_
  obtain ⟨x2, h2, hF⟩ := ob hF
  refine w_callV (As := [.int (v_location)]) (k := k0) (rest := []) (st1 := [.int (x2)]) X hH (c_X10_indexOf (l := l) (g := g) (w := w1) (k0 := k0) (v_location := v_location) h2 hk0) (Or.inl tw_6_172) ms_X10_indexOf im_X10_indexOf hk0 cn_10 ⟨Nat.le_of_ble_eq_true rfl, Nat.le_of_ble_eq_true rfl⟩ rfl rfl hl.1 (Nat.le_of_ble_eq_true rfl) dX10_componentSize_7 ⟨Nat.le_refl _, Nat.le_refl _⟩ rfl (fun H locs hH => ?_)
  refine lv_istore_n (lv' := [(2, .int (x2)), (0, .ref (g.2.2 (k0))), (1, .int (v_location))]) hx hb dX10_componentSize_10 rfl hl (by decide) rfl (fun ls hl => ?_)
  refine lv_iload_n hx hb dX10_componentSize_11 rfl (lv_at hl 0 rfl) ?_
  refine w_zlt_f (tgt := 17) hx hb dX10_componentSize_12 (by decide) (fun c3 => ?_) (fun c3 => ?_)
  · replace hF := ifn c3 hF
    refine lv_aload_n hx hb dX10_componentSize_17 rfl (lv_at hl 1 rfl) ?_
    obtain ⟨w4, h4, hF⟩ := ob hF
    refine w_callV (As := []) (k := k0) (rest := []) (st1 := []) X hH (c_X10_layReach (l := l) (g := g) (w := w1) (k0 := k0) h4 hk0) (Or.inl tw_7_62) ms_X10_layReach im_X10_layReach hk0 cn_10 ⟨Nat.le_of_ble_eq_true rfl, Nat.le_of_ble_eq_true rfl⟩ rfl rfl hl.1 (Nat.le_of_ble_eq_true rfl) dX10_componentSize_18 ⟨Nat.le_refl _, Nat.le_refl _⟩ rfl (fun H locs hH => ?_)
    refine lv_aload_n hx hb dX10_componentSize_21 rfl (lv_at hl 1 rfl) ?_
    refine lv_iload_n hx hb dX10_componentSize_22 rfl (lv_at hl 0 rfl) ?_
    obtain ⟨x5, h5, hF⟩ := ob hF
    refine w_callV (As := [.int (x2)]) (k := k0) (rest := []) (st1 := [.int (x5)]) X hH (c_X10_sizeOf (l := l) (g := g) (w := w4) (k0 := k0) (v_k := x2) h5 hk0) (Or.inl tw_7_66) ms_X10_sizeOf im_X10_sizeOf hk0 cn_10 ⟨Nat.le_of_ble_eq_true rfl, Nat.le_of_ble_eq_true rfl⟩ rfl rfl hl.1 (Nat.le_of_ble_eq_true rfl) dX10_componentSize_23 ⟨Nat.le_refl _, Nat.le_refl _⟩ rfl (fun H locs hH => ?_)
    obtain ⟨rfl, rfl⟩ := se2 hF
    exact w_iret X hH hr dX10_componentSize_26
  · replace hF := ifp c3 hF
    refine lv_iconst (v := (-1 : Int32)) hx hb dX10_componentSize_15 (by decide) ?_
    obtain ⟨rfl, rfl⟩ := se2 hF
    exact w_iret X hH hr dX10_componentSize_16

theorem dX10_representative_0 : decode cX10_representative 0 = .ok (.aload_n 0, 1) := by decide +kernel
theorem dX10_representative_1 : decode cX10_representative 1 = .ok (.iconst 0, 1) := by decide +kernel
theorem dX10_representative_2 : decode cX10_representative 2 = .ok (.putfield 85, 3) := by decide +kernel
theorem dX10_representative_5 : decode cX10_representative 5 = .ok (.aload_n 0, 1) := by decide +kernel
theorem dX10_representative_6 : decode cX10_representative 6 = .ok (.iload_n 1, 1) := by decide +kernel
theorem dX10_representative_7 : decode cX10_representative 7 = .ok (.invokevirtual 263, 3) := by decide +kernel
theorem dX10_representative_10 : decode cX10_representative 10 = .ok (.istore_n 2, 1) := by decide +kernel
theorem dX10_representative_11 : decode cX10_representative 11 = .ok (.iload_n 2, 1) := by decide +kernel
theorem dX10_representative_12 : decode cX10_representative 12 = .ok (.ifCond .ge 5, 3) := by decide +kernel
theorem dX10_representative_15 : decode cX10_representative 15 = .ok (.iconst (-1), 1) := by decide +kernel
theorem dX10_representative_16 : decode cX10_representative 16 = .ok (.ireturn, 1) := by decide +kernel
theorem dX10_representative_17 : decode cX10_representative 17 = .ok (.aload_n 0, 1) := by decide +kernel
theorem dX10_representative_18 : decode cX10_representative 18 = .ok (.invokevirtual 342, 3) := by decide +kernel
theorem dX10_representative_21 : decode cX10_representative 21 = .ok (.aload_n 0, 1) := by decide +kernel
theorem dX10_representative_22 : decode cX10_representative 22 = .ok (.iload_n 2, 1) := by decide +kernel
theorem dX10_representative_23 : decode cX10_representative 23 = .ok (.invokevirtual 348, 3) := by decide +kernel
theorem dX10_representative_26 : decode cX10_representative 26 = .ok (.invokestatic 311, 3) := by decide +kernel
theorem dX10_representative_29 : decode cX10_representative 29 = .ok (.ireturn, 1) := by decide +kernel
set_option maxHeartbeats 4000000 in
set_option maxRecDepth 100000 in
theorem c_X10_representative {l : Launch} {g : Gh} {w : Wd} {k0 : Nat} {v_location : Int32} {rz : Int32} {wz : Wd} (hF : f_X10_representative w k0 v_location = some (rz, wz)) (hk0 : zct zM k0 = 10) : Met l yX10_representative (Cond.code yX10_representative cX10_representative 3 (some .int) :: TT) (rmd 4) (Pcw zM g w [.ref (g.2.2 k0), .int (v_location)]) (Qw zM g wz (some (.int (rz)))) 0 0 (zA zM g) := by
  refine mt_start (by decide) (Nat.le_of_ble_eq_true rfl) ?_
  intro p e s m args below meth c H locs ls X hr hl hH
  have hx := X.1
  have hb := X.2.1
  have hml := X.2.2.1
  have hown := X.2.2.2.1
  have ht := X.2.2.2.2.1
  have hl : lv_has ls 3 [(0, .ref (g.2.2 (k0))), (1, .int (v_location))] := hl
  unfold f_X10_representative at hF
  refine lv_aload_n hx hb dX10_representative_0 rfl (lv_at hl 0 rfl) ?_
  refine lv_iconst (v := (0 : Int32)) hx hb dX10_representative_1 (by decide) ?_
  obtain ⟨w1, h1, hF⟩ := ob hF
  refine w_puti X hH h1 hk0 fs_10_0 nf_10_0 lk_10_85 dX10_representative_2 (fun H locs hH => ?_)
  refine lv_aload_n hx hb dX10_representative_5 rfl (lv_at hl 0 rfl) ?_
  refine lv_iload_n hx hb dX10_representative_6 rfl (lv_at hl 1 rfl) ?_
  obtain ⟨x2, h2, hF⟩ := ob hF
  refine w_callV (As := [.int (v_location)]) (k := k0) (rest := []) (st1 := [.int (x2)]) X hH (c_X10_indexOf (l := l) (g := g) (w := w1) (k0 := k0) (v_location := v_location) h2 hk0) (Or.inl tw_6_172) ms_X10_indexOf im_X10_indexOf hk0 cn_10 ⟨Nat.le_of_ble_eq_true rfl, Nat.le_of_ble_eq_true rfl⟩ rfl rfl hl.1 (Nat.le_of_ble_eq_true rfl) dX10_representative_7 ⟨Nat.le_refl _, Nat.le_refl _⟩ rfl (fun H locs hH => ?_)
  refine lv_istore_n (lv' := [(2, .int (x2)), (0, .ref (g.2.2 (k0))), (1, .int (v_location))]) hx hb dX10_representative_10 rfl hl (by decide) rfl (fun ls hl => ?_)
  refine lv_iload_n hx hb dX10_representative_11 rfl (lv_at hl 0 rfl) ?_
  refine w_zlt_f (tgt := 17) hx hb dX10_representative_12 (by decide) (fun c3 => ?_) (fun c3 => ?_)
  · replace hF := ifn c3 hF
    refine lv_aload_n hx hb dX10_representative_17 rfl (lv_at hl 1 rfl) ?_
    obtain ⟨w4, h4, hF⟩ := ob hF
    refine w_callV (As := []) (k := k0) (rest := []) (st1 := []) X hH (c_X10_layReach (l := l) (g := g) (w := w1) (k0 := k0) h4 hk0) (Or.inl tw_7_62) ms_X10_layReach im_X10_layReach hk0 cn_10 ⟨Nat.le_of_ble_eq_true rfl, Nat.le_of_ble_eq_true rfl⟩ rfl rfl hl.1 (Nat.le_of_ble_eq_true rfl) dX10_representative_18 ⟨Nat.le_refl _, Nat.le_refl _⟩ rfl (fun H locs hH => ?_)
    refine lv_aload_n hx hb dX10_representative_21 rfl (lv_at hl 1 rfl) ?_
    refine lv_iload_n hx hb dX10_representative_22 rfl (lv_at hl 0 rfl) ?_
    obtain ⟨x5, h5, hF⟩ := ob hF
    refine w_callV (As := [.int (x2)]) (k := k0) (rest := []) (st1 := [.int (x5)]) X hH (c_X10_lowest (l := l) (g := g) (w := w4) (k0 := k0) (v_k := x2) h5 hk0) (Or.inl tw_7_78) ms_X10_lowest im_X10_lowest hk0 cn_10 ⟨Nat.le_of_ble_eq_true rfl, Nat.le_of_ble_eq_true rfl⟩ rfl rfl hl.1 (Nat.le_of_ble_eq_true rfl) dX10_representative_23 ⟨Nat.le_refl _, Nat.le_refl _⟩ rfl (fun H locs hH => ?_)
    refine w_callS (As := [.int (x5)]) (rest := []) (st1 := [.int ((f_X10_locationOf (x5)))]) X hH (c_X10_locationOf (l := l) (g := g) (w := w4) (v_index := x5) rfl) (Or.inl tw_7_8) ms_X10_locationOf tw_7_9 ⟨Nat.le_of_ble_eq_true rfl, Nat.le_of_ble_eq_true rfl⟩ rfl rfl hl.1 (Nat.le_of_ble_eq_true rfl) dX10_representative_26 ⟨Nat.le_refl _, Nat.le_refl _⟩ rfl (fun H locs hH => ?_)
    obtain ⟨rfl, rfl⟩ := se2 hF
    exact w_iret X hH hr dX10_representative_29
  · replace hF := ifp c3 hF
    refine lv_iconst (v := (-1 : Int32)) hx hb dX10_representative_15 (by decide) ?_
    obtain ⟨rfl, rfl⟩ := se2 hF
    exact w_iret X hH hr dX10_representative_16

theorem dX10_cyclicComponentCount_0 : decode cX10_cyclicComponentCount 0 = .ok (.aload_n 0, 1) := by decide +kernel
theorem dX10_cyclicComponentCount_1 : decode cX10_cyclicComponentCount 1 = .ok (.iconst 0, 1) := by decide +kernel
theorem dX10_cyclicComponentCount_2 : decode cX10_cyclicComponentCount 2 = .ok (.putfield 85, 3) := by decide +kernel
theorem dX10_cyclicComponentCount_5 : decode cX10_cyclicComponentCount 5 = .ok (.aload_n 0, 1) := by decide +kernel
theorem dX10_cyclicComponentCount_6 : decode cX10_cyclicComponentCount 6 = .ok (.invokevirtual 342, 3) := by decide +kernel
theorem dX10_cyclicComponentCount_9 : decode cX10_cyclicComponentCount 9 = .ok (.iconst 0, 1) := by decide +kernel
theorem dX10_cyclicComponentCount_10 : decode cX10_cyclicComponentCount 10 = .ok (.istore_n 1, 1) := by decide +kernel
theorem dX10_cyclicComponentCount_11 : decode cX10_cyclicComponentCount 11 = .ok (.iconst 0, 1) := by decide +kernel
theorem dX10_cyclicComponentCount_12 : decode cX10_cyclicComponentCount 12 = .ok (.istore_n 2, 1) := by decide +kernel
theorem dX10_cyclicComponentCount_13 : decode cX10_cyclicComponentCount 13 = .ok (.iload_n 2, 1) := by decide +kernel
theorem dX10_cyclicComponentCount_14 : decode cX10_cyclicComponentCount 14 = .ok (.bipush 56, 2) := by decide +kernel
theorem dX10_cyclicComponentCount_16 : decode cX10_cyclicComponentCount 16 = .ok (.if_icmp .ge 43, 3) := by decide +kernel
theorem dX10_cyclicComponentCount_19 : decode cX10_cyclicComponentCount 19 = .ok (.iload_n 1, 1) := by decide +kernel
theorem dX10_cyclicComponentCount_20 : decode cX10_cyclicComponentCount 20 = .ok (.aload_n 0, 1) := by decide +kernel
theorem dX10_cyclicComponentCount_21 : decode cX10_cyclicComponentCount 21 = .ok (.iload_n 2, 1) := by decide +kernel
theorem dX10_cyclicComponentCount_22 : decode cX10_cyclicComponentCount 22 = .ok (.invokevirtual 351, 3) := by decide +kernel
theorem dX10_cyclicComponentCount_25 : decode cX10_cyclicComponentCount 25 = .ok (.ifCond .eq 25, 3) := by decide +kernel
theorem dX10_cyclicComponentCount_28 : decode cX10_cyclicComponentCount 28 = .ok (.aload_n 0, 1) := by decide +kernel
theorem dX10_cyclicComponentCount_29 : decode cX10_cyclicComponentCount 29 = .ok (.iload_n 2, 1) := by decide +kernel
theorem dX10_cyclicComponentCount_30 : decode cX10_cyclicComponentCount 30 = .ok (.invokevirtual 348, 3) := by decide +kernel
theorem dX10_cyclicComponentCount_33 : decode cX10_cyclicComponentCount 33 = .ok (.iload_n 2, 1) := by decide +kernel
theorem dX10_cyclicComponentCount_34 : decode cX10_cyclicComponentCount 34 = .ok (.if_icmp .ne 16, 3) := by decide +kernel
theorem dX10_cyclicComponentCount_37 : decode cX10_cyclicComponentCount 37 = .ok (.aload_n 0, 1) := by decide +kernel
theorem dX10_cyclicComponentCount_38 : decode cX10_cyclicComponentCount 38 = .ok (.iload_n 2, 1) := by decide +kernel
theorem dX10_cyclicComponentCount_39 : decode cX10_cyclicComponentCount 39 = .ok (.invokevirtual 345, 3) := by decide +kernel
theorem dX10_cyclicComponentCount_42 : decode cX10_cyclicComponentCount 42 = .ok (.iconst 1, 1) := by decide +kernel
theorem dX10_cyclicComponentCount_43 : decode cX10_cyclicComponentCount 43 = .ok (.if_icmp .le 7, 3) := by decide +kernel
theorem dX10_cyclicComponentCount_46 : decode cX10_cyclicComponentCount 46 = .ok (.iconst 1, 1) := by decide +kernel
theorem dX10_cyclicComponentCount_47 : decode cX10_cyclicComponentCount 47 = .ok (.goto 4, 3) := by decide +kernel
theorem dX10_cyclicComponentCount_50 : decode cX10_cyclicComponentCount 50 = .ok (.iconst 0, 1) := by decide +kernel
theorem dX10_cyclicComponentCount_51 : decode cX10_cyclicComponentCount 51 = .ok (.iadd, 1) := by decide +kernel
theorem dX10_cyclicComponentCount_52 : decode cX10_cyclicComponentCount 52 = .ok (.istore_n 1, 1) := by decide +kernel
theorem dX10_cyclicComponentCount_53 : decode cX10_cyclicComponentCount 53 = .ok (.iinc 2 1, 3) := by decide +kernel
theorem dX10_cyclicComponentCount_56 : decode cX10_cyclicComponentCount 56 = .ok (.goto (-43), 3) := by decide +kernel
theorem dX10_cyclicComponentCount_59 : decode cX10_cyclicComponentCount 59 = .ok (.iload_n 1, 1) := by decide +kernel
theorem dX10_cyclicComponentCount_60 : decode cX10_cyclicComponentCount 60 = .ok (.ireturn, 1) := by decide +kernel
set_option maxHeartbeats 4000000 in
set_option maxRecDepth 100000 in
theorem c_X10_cyclicComponentCount {l : Launch} {g : Gh} {w : Wd} {k0 : Nat} {rz : Int32} {wz : Wd} (hF : f_X10_cyclicComponentCount w k0 = some (rz, wz)) (hk0 : zct zM k0 = 10) : Met l yX10_cyclicComponentCount (Cond.code yX10_cyclicComponentCount cX10_cyclicComponentCount 3 (some .int) :: TT) (rmd 4) (Pcw zM g w [.ref (g.2.2 k0)]) (Qw zM g wz (some (.int (rz)))) 0 0 (zA zM g) := by
  refine mt_start (by decide) (Nat.le_of_ble_eq_true rfl) ?_
  intro p e s m args below meth c H locs ls X hr hl hH
  have hx := X.1
  have hb := X.2.1
  have hml := X.2.2.1
  have hown := X.2.2.2.1
  have ht := X.2.2.2.2.1
  have hl : lv_has ls 3 [(0, .ref (g.2.2 (k0)))] := hl
  unfold f_X10_cyclicComponentCount at hF
  refine lv_aload_n hx hb dX10_cyclicComponentCount_0 rfl (lv_at hl 0 rfl) ?_
  refine lv_iconst (v := (0 : Int32)) hx hb dX10_cyclicComponentCount_1 (by decide) ?_
  obtain ⟨w1, h1, hF⟩ := ob hF
  refine w_puti X hH h1 hk0 fs_10_0 nf_10_0 lk_10_85 dX10_cyclicComponentCount_2 (fun H locs hH => ?_)
  refine lv_aload_n hx hb dX10_cyclicComponentCount_5 rfl (lv_at hl 0 rfl) ?_
  obtain ⟨w2, h2, hF⟩ := ob hF
  refine w_callV (As := []) (k := k0) (rest := []) (st1 := []) X hH (c_X10_layReach (l := l) (g := g) (w := w1) (k0 := k0) h2 hk0) (Or.inl tw_7_62) ms_X10_layReach im_X10_layReach hk0 cn_10 ⟨Nat.le_of_ble_eq_true rfl, Nat.le_of_ble_eq_true rfl⟩ rfl rfl hl.1 (Nat.le_of_ble_eq_true rfl) dX10_cyclicComponentCount_6 ⟨Nat.le_refl _, Nat.le_refl _⟩ rfl (fun H locs hH => ?_)
  refine lv_iconst (v := (0 : Int32)) hx hb dX10_cyclicComponentCount_9 (by decide) ?_
  refine lv_istore_n (lv' := [(1, .int ((0 : Int32))), (0, .ref (g.2.2 (k0)))]) hx hb dX10_cyclicComponentCount_10 rfl hl (by decide) rfl (fun ls hl => ?_)
  refine lv_iconst (v := (0 : Int32)) hx hb dX10_cyclicComponentCount_11 (by decide) ?_
  refine lv_istore_n (lv' := [(2, .int ((0 : Int32))), (1, .int ((0 : Int32))), (0, .ref (g.2.2 (k0)))]) hx hb dX10_cyclicComponentCount_12 rfl hl (by decide) rfl (fun ls hl => ?_)
  obtain ⟨r4, hLr4, hF⟩ := ob hF
  have Jr4 : ∀ (H : Heap) (locs : List Loc) (ls : Array Slot), HW zM g w2 s.heap H locs → lv_has ls 3 [(0, .ref (g.2.2 (k0))), (1, .int (r4))] → W p l e (rmd 4) s m args below meth c H locs 0 0 (MQ below (Qw zM g wz (some (.int (rz)))) args s 0 0 (zA zM g)) (F0 m 59 ls []) := by
    intro H locs ls hH hl
    refine lv_iload_n hx hb dX10_cyclicComponentCount_59 rfl (lv_at hl 1 rfl) ?_
    obtain ⟨rfl, rfl⟩ := se2 hF
    exact w_iret X hH hr dX10_cyclicComponentCount_60
  have Lr4 : ∀ (n : Nat) (s3 : Int32 × Int32), lp (b_X10_cyclicComponentCount_1 w2 k0) n s3 = some r4 → ∀ (H : Heap) (locs : List Loc) (ls : Array Slot), HW zM g w2 s.heap H locs → lv_has ls 3 [(0, .ref (g.2.2 (k0))), (1, .int (s3.1)), (2, .int (s3.2))] → W p l e (rmd 4) s m args below meth c H locs 0 0 (MQ below (Qw zM g wz (some (.int (rz)))) args s 0 0 (zA zM g)) (F0 m 13 ls []) := by
    intro n
    induction n with
    | zero => intro s3 hL; exact lp_0 hL
    | succ n ih =>
      intro s3 hL H locs ls hH hl
      obtain ⟨bb, hF, hL⟩ := lp_s hL
      unfold b_X10_cyclicComponentCount_1 at hF
      refine lv_iload_n hx hb dX10_cyclicComponentCount_13 rfl (lv_at hl 2 rfl) ?_
      refine lv_bipush (v := (56 : Int32)) hx hb dX10_cyclicComponentCount_14 (by decide) ?_
      refine w_ilt_f (tgt := 59) hx hb dX10_cyclicComponentCount_16 (by decide) (fun c5 => ?_) (fun c5 => ?_)
      · replace hF := ifn c5 hF
        obtain rfl := se1 hF
        subst hL
        exact Jr4 _ _ _ hH (lv_sub hl [0, 1] rfl)
      · replace hF := ifp c5 hF
        refine lv_iload_n hx hb dX10_cyclicComponentCount_19 rfl (lv_at hl 1 rfl) ?_
        obtain ⟨x7, hx7, hF⟩ := ob hF
        have J6 : ∀ (H : Heap) (locs : List Loc), HW zM g w2 s.heap H locs → W p l e (rmd 4) s m args below meth c H locs 0 0 (MQ below (Qw zM g wz (some (.int (rz)))) args s 0 0 (zA zM g)) (F0 m 51 ls [.int (x7), .int (s3.1)]) := by
          intro H locs hH
          refine lv_iadd hx hb dX10_cyclicComponentCount_51 ?_
          refine lv_istore_n (lv' := [(1, .int ((s3.1 + x7))), (0, .ref (g.2.2 (k0))), (2, .int (s3.2))]) hx hb dX10_cyclicComponentCount_52 rfl hl (by decide) rfl (fun ls hl => ?_)
          refine lv_iinc (v := (s3.2 + (1 : Int32))) (lv' := [(2, .int ((s3.2 + (1 : Int32)))), (1, .int ((s3.1 + x7))), (0, .ref (g.2.2 (k0)))]) hx hb dX10_cyclicComponentCount_53 hl (k := 2) rfl rfl (by decide) rfl (fun ls hl => ?_)
          refine lv_goto (tgt := 13) hx hb dX10_cyclicComponentCount_56 (by decide) ?_
          obtain rfl := se1 hF
          exact ih _ hL _ _ _ hH (lv_sub hl [2, 1, 0] rfl)
        have hF := hx7
        obtain ⟨b8, hb8, hF⟩ := ob hF
        have Jb8T : b8 = true → ∀ (H : Heap) (locs : List Loc), HW zM g w2 s.heap H locs → W p l e (rmd 4) s m args below meth c H locs 0 0 (MQ below (Qw zM g wz (some (.int (rz)))) args s 0 0 (zA zM g)) (F0 m 46 ls [.int (s3.1)]) := by
          intro hc H locs hH
          replace hF := ifp hc hF
          refine lv_iconst (v := (1 : Int32)) hx hb dX10_cyclicComponentCount_46 (by decide) ?_
          refine lv_goto (tgt := 51) hx hb dX10_cyclicComponentCount_47 (by decide) ?_
          obtain rfl := se1 hF
          exact J6 _ _ hH
        have Jb8F : ¬ (b8 = true) → ∀ (H : Heap) (locs : List Loc), HW zM g w2 s.heap H locs → W p l e (rmd 4) s m args below meth c H locs 0 0 (MQ below (Qw zM g wz (some (.int (rz)))) args s 0 0 (zA zM g)) (F0 m 50 ls [.int (s3.1)]) := by
          intro hc H locs hH
          replace hF := ifn hc hF
          refine lv_iconst (v := (0 : Int32)) hx hb dX10_cyclicComponentCount_50 (by decide) ?_
          obtain rfl := se1 hF
          exact J6 _ _ hH
        have hF := hb8
        refine lv_aload_n hx hb dX10_cyclicComponentCount_20 rfl (lv_at hl 0 rfl) ?_
        refine lv_iload_n hx hb dX10_cyclicComponentCount_21 rfl (lv_at hl 2 rfl) ?_
        obtain ⟨x10, h10, hF⟩ := ob hF
        refine w_callV (As := [.int (s3.2)]) (k := k0) (rest := [.int (s3.1)]) (st1 := [.int (bI (x10)), .int (s3.1)]) X hH (c_X10_exists (l := l) (g := g) (w := w2) (k0 := k0) (v_index := s3.2) h10 hk0) (Or.inl tw_7_86) ms_X10_exists im_X10_exists hk0 cn_10 ⟨Nat.le_of_ble_eq_true rfl, Nat.le_of_ble_eq_true rfl⟩ rfl rfl hl.1 (Nat.le_of_ble_eq_true rfl) dX10_cyclicComponentCount_22 ⟨Nat.le_refl _, Nat.le_refl _⟩ rfl (fun H locs hH => ?_)
        refine w_b_f (tgt := 50) hx hb dX10_cyclicComponentCount_25 (by decide) (fun c9 => ?_) (fun c9 => ?_)
        · replace hF := ifn c9 hF
          obtain rfl := se1 hF
          exact Jb8F Bool.false_ne_true _ _ hH
        · replace hF := ifp c9 hF
          refine lv_aload_n hx hb dX10_cyclicComponentCount_28 rfl (lv_at hl 0 rfl) ?_
          refine lv_iload_n hx hb dX10_cyclicComponentCount_29 rfl (lv_at hl 2 rfl) ?_
          obtain ⟨x12, h12, hF⟩ := ob hF
          refine w_callV (As := [.int (s3.2)]) (k := k0) (rest := [.int (s3.1)]) (st1 := [.int (x12), .int (s3.1)]) X hH (c_X10_lowest (l := l) (g := g) (w := w2) (k0 := k0) (v_k := s3.2) h12 hk0) (Or.inl tw_7_78) ms_X10_lowest im_X10_lowest hk0 cn_10 ⟨Nat.le_of_ble_eq_true rfl, Nat.le_of_ble_eq_true rfl⟩ rfl rfl hl.1 (Nat.le_of_ble_eq_true rfl) dX10_cyclicComponentCount_30 ⟨Nat.le_refl _, Nat.le_refl _⟩ rfl (fun H locs hH => ?_)
          refine lv_iload_n hx hb dX10_cyclicComponentCount_33 rfl (lv_at hl 2 rfl) ?_
          refine w_ieq_f (tgt := 50) hx hb dX10_cyclicComponentCount_34 (by decide) (fun c11 => ?_) (fun c11 => ?_)
          · replace hF := ifn c11 hF
            obtain rfl := se1 hF
            exact Jb8F Bool.false_ne_true _ _ hH
          · replace hF := ifp c11 hF
            refine lv_aload_n hx hb dX10_cyclicComponentCount_37 rfl (lv_at hl 0 rfl) ?_
            refine lv_iload_n hx hb dX10_cyclicComponentCount_38 rfl (lv_at hl 2 rfl) ?_
            obtain ⟨x14, h14, hF⟩ := ob hF
            refine w_callV (As := [.int (s3.2)]) (k := k0) (rest := [.int (s3.1)]) (st1 := [.int (x14), .int (s3.1)]) X hH (c_X10_sizeOf (l := l) (g := g) (w := w2) (k0 := k0) (v_k := s3.2) h14 hk0) (Or.inl tw_7_66) ms_X10_sizeOf im_X10_sizeOf hk0 cn_10 ⟨Nat.le_of_ble_eq_true rfl, Nat.le_of_ble_eq_true rfl⟩ rfl rfl hl.1 (Nat.le_of_ble_eq_true rfl) dX10_cyclicComponentCount_39 ⟨Nat.le_refl _, Nat.le_refl _⟩ rfl (fun H locs hH => ?_)
            refine lv_iconst (v := (1 : Int32)) hx hb dX10_cyclicComponentCount_42 (by decide) ?_
            refine w_igt_f (tgt := 50) hx hb dX10_cyclicComponentCount_43 (by decide) (fun c13 => ?_) (fun c13 => ?_)
            · replace hF := ifn c13 hF
              obtain rfl := se1 hF
              exact Jb8F Bool.false_ne_true _ _ hH
            · replace hF := ifp c13 hF
              obtain rfl := se1 hF
              exact Jb8T rfl _ _ hH
  exact Lr4 NF _ hLr4 _ _ _ hH (lv_sub hl [2, 1, 0] rfl)

theorem dX10_condensedNodeCount_0 : decode cX10_condensedNodeCount 0 = .ok (.aload_n 0, 1) := by decide +kernel
theorem dX10_condensedNodeCount_1 : decode cX10_condensedNodeCount 1 = .ok (.iconst 0, 1) := by decide +kernel
theorem dX10_condensedNodeCount_2 : decode cX10_condensedNodeCount 2 = .ok (.putfield 85, 3) := by decide +kernel
theorem dX10_condensedNodeCount_5 : decode cX10_condensedNodeCount 5 = .ok (.aload_n 0, 1) := by decide +kernel
theorem dX10_condensedNodeCount_6 : decode cX10_condensedNodeCount 6 = .ok (.invokevirtual 342, 3) := by decide +kernel
theorem dX10_condensedNodeCount_9 : decode cX10_condensedNodeCount 9 = .ok (.iconst 0, 1) := by decide +kernel
theorem dX10_condensedNodeCount_10 : decode cX10_condensedNodeCount 10 = .ok (.istore_n 1, 1) := by decide +kernel
theorem dX10_condensedNodeCount_11 : decode cX10_condensedNodeCount 11 = .ok (.iconst 0, 1) := by decide +kernel
theorem dX10_condensedNodeCount_12 : decode cX10_condensedNodeCount 12 = .ok (.istore_n 2, 1) := by decide +kernel
theorem dX10_condensedNodeCount_13 : decode cX10_condensedNodeCount 13 = .ok (.iload_n 2, 1) := by decide +kernel
theorem dX10_condensedNodeCount_14 : decode cX10_condensedNodeCount 14 = .ok (.bipush 56, 2) := by decide +kernel
theorem dX10_condensedNodeCount_16 : decode cX10_condensedNodeCount 16 = .ok (.if_icmp .ge 34, 3) := by decide +kernel
theorem dX10_condensedNodeCount_19 : decode cX10_condensedNodeCount 19 = .ok (.iload_n 1, 1) := by decide +kernel
theorem dX10_condensedNodeCount_20 : decode cX10_condensedNodeCount 20 = .ok (.aload_n 0, 1) := by decide +kernel
theorem dX10_condensedNodeCount_21 : decode cX10_condensedNodeCount 21 = .ok (.iload_n 2, 1) := by decide +kernel
theorem dX10_condensedNodeCount_22 : decode cX10_condensedNodeCount 22 = .ok (.invokevirtual 351, 3) := by decide +kernel
theorem dX10_condensedNodeCount_25 : decode cX10_condensedNodeCount 25 = .ok (.ifCond .eq 16, 3) := by decide +kernel
theorem dX10_condensedNodeCount_28 : decode cX10_condensedNodeCount 28 = .ok (.aload_n 0, 1) := by decide +kernel
theorem dX10_condensedNodeCount_29 : decode cX10_condensedNodeCount 29 = .ok (.iload_n 2, 1) := by decide +kernel
theorem dX10_condensedNodeCount_30 : decode cX10_condensedNodeCount 30 = .ok (.invokevirtual 348, 3) := by decide +kernel
theorem dX10_condensedNodeCount_33 : decode cX10_condensedNodeCount 33 = .ok (.iload_n 2, 1) := by decide +kernel
theorem dX10_condensedNodeCount_34 : decode cX10_condensedNodeCount 34 = .ok (.if_icmp .ne 7, 3) := by decide +kernel
theorem dX10_condensedNodeCount_37 : decode cX10_condensedNodeCount 37 = .ok (.iconst 1, 1) := by decide +kernel
theorem dX10_condensedNodeCount_38 : decode cX10_condensedNodeCount 38 = .ok (.goto 4, 3) := by decide +kernel
theorem dX10_condensedNodeCount_41 : decode cX10_condensedNodeCount 41 = .ok (.iconst 0, 1) := by decide +kernel
theorem dX10_condensedNodeCount_42 : decode cX10_condensedNodeCount 42 = .ok (.iadd, 1) := by decide +kernel
theorem dX10_condensedNodeCount_43 : decode cX10_condensedNodeCount 43 = .ok (.istore_n 1, 1) := by decide +kernel
theorem dX10_condensedNodeCount_44 : decode cX10_condensedNodeCount 44 = .ok (.iinc 2 1, 3) := by decide +kernel
theorem dX10_condensedNodeCount_47 : decode cX10_condensedNodeCount 47 = .ok (.goto (-34), 3) := by decide +kernel
theorem dX10_condensedNodeCount_50 : decode cX10_condensedNodeCount 50 = .ok (.iload_n 1, 1) := by decide +kernel
theorem dX10_condensedNodeCount_51 : decode cX10_condensedNodeCount 51 = .ok (.ireturn, 1) := by decide +kernel
set_option maxHeartbeats 4000000 in
set_option maxRecDepth 100000 in
theorem c_X10_condensedNodeCount {l : Launch} {g : Gh} {w : Wd} {k0 : Nat} {rz : Int32} {wz : Wd} (hF : f_X10_condensedNodeCount w k0 = some (rz, wz)) (hk0 : zct zM k0 = 10) : Met l yX10_condensedNodeCount (Cond.code yX10_condensedNodeCount cX10_condensedNodeCount 3 (some .int) :: TT) (rmd 4) (Pcw zM g w [.ref (g.2.2 k0)]) (Qw zM g wz (some (.int (rz)))) 0 0 (zA zM g) := by
  refine mt_start (by decide) (Nat.le_of_ble_eq_true rfl) ?_
  intro p e s m args below meth c H locs ls X hr hl hH
  have hx := X.1
  have hb := X.2.1
  have hml := X.2.2.1
  have hown := X.2.2.2.1
  have ht := X.2.2.2.2.1
  have hl : lv_has ls 3 [(0, .ref (g.2.2 (k0)))] := hl
  unfold f_X10_condensedNodeCount at hF
  refine lv_aload_n hx hb dX10_condensedNodeCount_0 rfl (lv_at hl 0 rfl) ?_
  refine lv_iconst (v := (0 : Int32)) hx hb dX10_condensedNodeCount_1 (by decide) ?_
  obtain ⟨w1, h1, hF⟩ := ob hF
  refine w_puti X hH h1 hk0 fs_10_0 nf_10_0 lk_10_85 dX10_condensedNodeCount_2 (fun H locs hH => ?_)
  refine lv_aload_n hx hb dX10_condensedNodeCount_5 rfl (lv_at hl 0 rfl) ?_
  obtain ⟨w2, h2, hF⟩ := ob hF
  refine w_callV (As := []) (k := k0) (rest := []) (st1 := []) X hH (c_X10_layReach (l := l) (g := g) (w := w1) (k0 := k0) h2 hk0) (Or.inl tw_7_62) ms_X10_layReach im_X10_layReach hk0 cn_10 ⟨Nat.le_of_ble_eq_true rfl, Nat.le_of_ble_eq_true rfl⟩ rfl rfl hl.1 (Nat.le_of_ble_eq_true rfl) dX10_condensedNodeCount_6 ⟨Nat.le_refl _, Nat.le_refl _⟩ rfl (fun H locs hH => ?_)
  refine lv_iconst (v := (0 : Int32)) hx hb dX10_condensedNodeCount_9 (by decide) ?_
  refine lv_istore_n (lv' := [(1, .int ((0 : Int32))), (0, .ref (g.2.2 (k0)))]) hx hb dX10_condensedNodeCount_10 rfl hl (by decide) rfl (fun ls hl => ?_)
  refine lv_iconst (v := (0 : Int32)) hx hb dX10_condensedNodeCount_11 (by decide) ?_
  refine lv_istore_n (lv' := [(2, .int ((0 : Int32))), (1, .int ((0 : Int32))), (0, .ref (g.2.2 (k0)))]) hx hb dX10_condensedNodeCount_12 rfl hl (by decide) rfl (fun ls hl => ?_)
  obtain ⟨r4, hLr4, hF⟩ := ob hF
  have Jr4 : ∀ (H : Heap) (locs : List Loc) (ls : Array Slot), HW zM g w2 s.heap H locs → lv_has ls 3 [(0, .ref (g.2.2 (k0))), (1, .int (r4))] → W p l e (rmd 4) s m args below meth c H locs 0 0 (MQ below (Qw zM g wz (some (.int (rz)))) args s 0 0 (zA zM g)) (F0 m 50 ls []) := by
    intro H locs ls hH hl
    refine lv_iload_n hx hb dX10_condensedNodeCount_50 rfl (lv_at hl 1 rfl) ?_
    obtain ⟨rfl, rfl⟩ := se2 hF
    exact w_iret X hH hr dX10_condensedNodeCount_51
  have Lr4 : ∀ (n : Nat) (s3 : Int32 × Int32), lp (b_X10_condensedNodeCount_1 w2 k0) n s3 = some r4 → ∀ (H : Heap) (locs : List Loc) (ls : Array Slot), HW zM g w2 s.heap H locs → lv_has ls 3 [(0, .ref (g.2.2 (k0))), (1, .int (s3.1)), (2, .int (s3.2))] → W p l e (rmd 4) s m args below meth c H locs 0 0 (MQ below (Qw zM g wz (some (.int (rz)))) args s 0 0 (zA zM g)) (F0 m 13 ls []) := by
    intro n
    induction n with
    | zero => intro s3 hL; exact lp_0 hL
    | succ n ih =>
      intro s3 hL H locs ls hH hl
      obtain ⟨bb, hF, hL⟩ := lp_s hL
      unfold b_X10_condensedNodeCount_1 at hF
      refine lv_iload_n hx hb dX10_condensedNodeCount_13 rfl (lv_at hl 2 rfl) ?_
      refine lv_bipush (v := (56 : Int32)) hx hb dX10_condensedNodeCount_14 (by decide) ?_
      refine w_ilt_f (tgt := 50) hx hb dX10_condensedNodeCount_16 (by decide) (fun c5 => ?_) (fun c5 => ?_)
      · replace hF := ifn c5 hF
        obtain rfl := se1 hF
        subst hL
        exact Jr4 _ _ _ hH (lv_sub hl [0, 1] rfl)
      · replace hF := ifp c5 hF
        refine lv_iload_n hx hb dX10_condensedNodeCount_19 rfl (lv_at hl 1 rfl) ?_
        obtain ⟨x7, hx7, hF⟩ := ob hF
        have J6 : ∀ (H : Heap) (locs : List Loc), HW zM g w2 s.heap H locs → W p l e (rmd 4) s m args below meth c H locs 0 0 (MQ below (Qw zM g wz (some (.int (rz)))) args s 0 0 (zA zM g)) (F0 m 42 ls [.int (x7), .int (s3.1)]) := by
          intro H locs hH
          refine lv_iadd hx hb dX10_condensedNodeCount_42 ?_
          refine lv_istore_n (lv' := [(1, .int ((s3.1 + x7))), (0, .ref (g.2.2 (k0))), (2, .int (s3.2))]) hx hb dX10_condensedNodeCount_43 rfl hl (by decide) rfl (fun ls hl => ?_)
          refine lv_iinc (v := (s3.2 + (1 : Int32))) (lv' := [(2, .int ((s3.2 + (1 : Int32)))), (1, .int ((s3.1 + x7))), (0, .ref (g.2.2 (k0)))]) hx hb dX10_condensedNodeCount_44 hl (k := 2) rfl rfl (by decide) rfl (fun ls hl => ?_)
          refine lv_goto (tgt := 13) hx hb dX10_condensedNodeCount_47 (by decide) ?_
          obtain rfl := se1 hF
          exact ih _ hL _ _ _ hH (lv_sub hl [2, 1, 0] rfl)
        have hF := hx7
        obtain ⟨b8, hb8, hF⟩ := ob hF
        have Jb8T : b8 = true → ∀ (H : Heap) (locs : List Loc), HW zM g w2 s.heap H locs → W p l e (rmd 4) s m args below meth c H locs 0 0 (MQ below (Qw zM g wz (some (.int (rz)))) args s 0 0 (zA zM g)) (F0 m 37 ls [.int (s3.1)]) := by
          intro hc H locs hH
          replace hF := ifp hc hF
          refine lv_iconst (v := (1 : Int32)) hx hb dX10_condensedNodeCount_37 (by decide) ?_
          refine lv_goto (tgt := 42) hx hb dX10_condensedNodeCount_38 (by decide) ?_
          obtain rfl := se1 hF
          exact J6 _ _ hH
        have Jb8F : ¬ (b8 = true) → ∀ (H : Heap) (locs : List Loc), HW zM g w2 s.heap H locs → W p l e (rmd 4) s m args below meth c H locs 0 0 (MQ below (Qw zM g wz (some (.int (rz)))) args s 0 0 (zA zM g)) (F0 m 41 ls [.int (s3.1)]) := by
          intro hc H locs hH
          replace hF := ifn hc hF
          refine lv_iconst (v := (0 : Int32)) hx hb dX10_condensedNodeCount_41 (by decide) ?_
          obtain rfl := se1 hF
          exact J6 _ _ hH
        have hF := hb8
        refine lv_aload_n hx hb dX10_condensedNodeCount_20 rfl (lv_at hl 0 rfl) ?_
        refine lv_iload_n hx hb dX10_condensedNodeCount_21 rfl (lv_at hl 2 rfl) ?_
        obtain ⟨x10, h10, hF⟩ := ob hF
        refine w_callV (As := [.int (s3.2)]) (k := k0) (rest := [.int (s3.1)]) (st1 := [.int (bI (x10)), .int (s3.1)]) X hH (c_X10_exists (l := l) (g := g) (w := w2) (k0 := k0) (v_index := s3.2) h10 hk0) (Or.inl tw_7_86) ms_X10_exists im_X10_exists hk0 cn_10 ⟨Nat.le_of_ble_eq_true rfl, Nat.le_of_ble_eq_true rfl⟩ rfl rfl hl.1 (Nat.le_of_ble_eq_true rfl) dX10_condensedNodeCount_22 ⟨Nat.le_refl _, Nat.le_refl _⟩ rfl (fun H locs hH => ?_)
        refine w_b_f (tgt := 41) hx hb dX10_condensedNodeCount_25 (by decide) (fun c9 => ?_) (fun c9 => ?_)
        · replace hF := ifn c9 hF
          obtain rfl := se1 hF
          exact Jb8F Bool.false_ne_true _ _ hH
        · replace hF := ifp c9 hF
          refine lv_aload_n hx hb dX10_condensedNodeCount_28 rfl (lv_at hl 0 rfl) ?_
          refine lv_iload_n hx hb dX10_condensedNodeCount_29 rfl (lv_at hl 2 rfl) ?_
          obtain ⟨x12, h12, hF⟩ := ob hF
          refine w_callV (As := [.int (s3.2)]) (k := k0) (rest := [.int (s3.1)]) (st1 := [.int (x12), .int (s3.1)]) X hH (c_X10_lowest (l := l) (g := g) (w := w2) (k0 := k0) (v_k := s3.2) h12 hk0) (Or.inl tw_7_78) ms_X10_lowest im_X10_lowest hk0 cn_10 ⟨Nat.le_of_ble_eq_true rfl, Nat.le_of_ble_eq_true rfl⟩ rfl rfl hl.1 (Nat.le_of_ble_eq_true rfl) dX10_condensedNodeCount_30 ⟨Nat.le_refl _, Nat.le_refl _⟩ rfl (fun H locs hH => ?_)
          refine lv_iload_n hx hb dX10_condensedNodeCount_33 rfl (lv_at hl 2 rfl) ?_
          refine w_ieq_f (tgt := 41) hx hb dX10_condensedNodeCount_34 (by decide) (fun c11 => ?_) (fun c11 => ?_)
          · replace hF := ifn c11 hF
            obtain rfl := se1 hF
            exact Jb8F Bool.false_ne_true _ _ hH
          · replace hF := ifp c11 hF
            obtain rfl := se1 hF
            exact Jb8T rfl _ _ hH
  exact Lr4 NF _ hLr4 _ _ _ hH (lv_sub hl [2, 1, 0] rfl)
