-- deps: 26 25
/-! The walks of the law's methods. -/
theorem dL_locations_0 : decode cL_locations 0 = .ok (.aload_n 0, 1) := by decide +kernel
theorem dL_locations_1 : decode cL_locations 1 = .ok (.invokevirtual 77, 3) := by decide +kernel
theorem dL_locations_4 : decode cL_locations 4 = .ok (.aload_n 0, 1) := by decide +kernel
theorem dL_locations_5 : decode cL_locations 5 = .ok (.invokevirtual 80, 3) := by decide +kernel
theorem dL_locations_8 : decode cL_locations 8 = .ok (.aload_n 0, 1) := by decide +kernel
theorem dL_locations_9 : decode cL_locations 9 = .ok (.invokevirtual 83, 3) := by decide +kernel
theorem dL_locations_12 : decode cL_locations 12 = .ok (.imul, 1) := by decide +kernel
theorem dL_locations_13 : decode cL_locations 13 = .ok (.iadd, 1) := by decide +kernel
theorem dL_locations_14 : decode cL_locations 14 = .ok (.newarray .int, 2) := by decide +kernel
theorem dL_locations_16 : decode cL_locations 16 = .ok (.astore_n 1, 1) := by decide +kernel
theorem dL_locations_17 : decode cL_locations 17 = .ok (.iconst 0, 1) := by decide +kernel
theorem dL_locations_18 : decode cL_locations 18 = .ok (.istore_n 2, 1) := by decide +kernel
theorem dL_locations_19 : decode cL_locations 19 = .ok (.iconst 0, 1) := by decide +kernel
theorem dL_locations_20 : decode cL_locations 20 = .ok (.istore_n 3, 1) := by decide +kernel
theorem dL_locations_21 : decode cL_locations 21 = .ok (.iload_n 3, 1) := by decide +kernel
theorem dL_locations_22 : decode cL_locations 22 = .ok (.aload_n 0, 1) := by decide +kernel
theorem dL_locations_23 : decode cL_locations 23 = .ok (.invokevirtual 77, 3) := by decide +kernel
theorem dL_locations_26 : decode cL_locations 26 = .ok (.if_icmp .ge 16, 3) := by decide +kernel
theorem dL_locations_29 : decode cL_locations 29 = .ok (.aload_n 1, 1) := by decide +kernel
theorem dL_locations_30 : decode cL_locations 30 = .ok (.iload_n 2, 1) := by decide +kernel
theorem dL_locations_31 : decode cL_locations 31 = .ok (.iinc 2 1, 3) := by decide +kernel
theorem dL_locations_34 : decode cL_locations 34 = .ok (.iload_n 3, 1) := by decide +kernel
theorem dL_locations_35 : decode cL_locations 35 = .ok (.iastore, 1) := by decide +kernel
theorem dL_locations_36 : decode cL_locations 36 = .ok (.iinc 3 1, 3) := by decide +kernel
theorem dL_locations_39 : decode cL_locations 39 = .ok (.goto (-18), 3) := by decide +kernel
theorem dL_locations_42 : decode cL_locations 42 = .ok (.iconst 0, 1) := by decide +kernel
theorem dL_locations_43 : decode cL_locations 43 = .ok (.istore_n 3, 1) := by decide +kernel
theorem dL_locations_44 : decode cL_locations 44 = .ok (.iload_n 3, 1) := by decide +kernel
theorem dL_locations_45 : decode cL_locations 45 = .ok (.aload_n 0, 1) := by decide +kernel
theorem dL_locations_46 : decode cL_locations 46 = .ok (.invokevirtual 80, 3) := by decide +kernel
theorem dL_locations_49 : decode cL_locations 49 = .ok (.if_icmp .ge 42, 3) := by decide +kernel
theorem dL_locations_52 : decode cL_locations 52 = .ok (.iconst 0, 1) := by decide +kernel
theorem dL_locations_53 : decode cL_locations 53 = .ok (.istore 4, 2) := by decide +kernel
theorem dL_locations_55 : decode cL_locations 55 = .ok (.iload 4, 2) := by decide +kernel
theorem dL_locations_57 : decode cL_locations 57 = .ok (.aload_n 0, 1) := by decide +kernel
theorem dL_locations_58 : decode cL_locations 58 = .ok (.invokevirtual 83, 3) := by decide +kernel
theorem dL_locations_61 : decode cL_locations 61 = .ok (.if_icmp .ge 24, 3) := by decide +kernel
theorem dL_locations_64 : decode cL_locations 64 = .ok (.aload_n 1, 1) := by decide +kernel
theorem dL_locations_65 : decode cL_locations 65 = .ok (.iload_n 2, 1) := by decide +kernel
theorem dL_locations_66 : decode cL_locations 66 = .ok (.iinc 2 1, 3) := by decide +kernel
theorem dL_locations_69 : decode cL_locations 69 = .ok (.bipush 100, 2) := by decide +kernel
theorem dL_locations_71 : decode cL_locations 71 = .ok (.iconst 4, 1) := by decide +kernel
theorem dL_locations_72 : decode cL_locations 72 = .ok (.iload_n 3, 1) := by decide +kernel
theorem dL_locations_73 : decode cL_locations 73 = .ok (.imul, 1) := by decide +kernel
theorem dL_locations_74 : decode cL_locations 74 = .ok (.iadd, 1) := by decide +kernel
theorem dL_locations_75 : decode cL_locations 75 = .ok (.iload 4, 2) := by decide +kernel
theorem dL_locations_77 : decode cL_locations 77 = .ok (.iadd, 1) := by decide +kernel
theorem dL_locations_78 : decode cL_locations 78 = .ok (.iastore, 1) := by decide +kernel
theorem dL_locations_79 : decode cL_locations 79 = .ok (.iinc 4 1, 3) := by decide +kernel
theorem dL_locations_82 : decode cL_locations 82 = .ok (.goto (-27), 3) := by decide +kernel
theorem dL_locations_85 : decode cL_locations 85 = .ok (.iinc 3 1, 3) := by decide +kernel
theorem dL_locations_88 : decode cL_locations 88 = .ok (.goto (-44), 3) := by decide +kernel
theorem dL_locations_91 : decode cL_locations 91 = .ok (.aload_n 1, 1) := by decide +kernel
theorem dL_locations_92 : decode cL_locations 92 = .ok (.areturn, 1) := by decide +kernel
theorem ms_L_locations : MSt yL_locations cL_locations 5 (some (.array .int)) 1 := ⟨tw_4_155, tw_1_0, by decide, by decide, by decide +kernel⟩
set_option maxHeartbeats 8000000 in
set_option maxRecDepth 100000 in
theorem c_L_locations {l : Launch} {g : Gh} {Lx : Nat × (Nat → Int32)} {aC : Nat → Nat} {w : Wd} {rz : Nat × (Nat → Int32)} (hF : f_L_locations w = some rz) (hA : ∀ k, 1000 ≤ k → aC k = g.2.2 k) : LMt l Lx g yL_locations cL_locations 5 (some (.array .int)) 3 1 2000 (zcells zC (gW g aC) w) [.ref (aC 0)] (fun v nb => ∃ q, v = some (.ref q) ∧ nb = (q, ia g rz.1 rz.2) :: zcells zC (gW g aC) w) := by
  refine lm_start (by decide) (Nat.le_of_ble_eq_true rfl) ?_
  intro p e s m args below meth c ls X hZ hnm hr hl hL
  have hx := X.1
  have hb := X.2.1
  have hown := X.2.2.2.1
  have ht := X.2.2.2.2.1
  have hl : lv_has ls 5 [(0, .ref (aC 0))] := hl
  have hL : LW g (va_A (zcells zC (gW g aC) w) s.heap.size) ([] ++ zcells zC (gW g aC) w) s.heap s.heap [] := hL
  unfold f_L_locations at hF
  have key : ∀ (H : Heap) (locs : List Loc), LW g (va_A (zcells zC (gW g aC) w) s.heap.size) ([] ++ zcells zC (gW g aC) w) s.heap H locs → W p l e { frames := 3, cells := 1, slots := 2000, locals := 40 * 3 } s m args below meth c H locs 0 0 (MQ below (LQc g (zcells zC (gW g aC) w) s.heap.size (fun v nb => ∃ q, v = some (.ref q) ∧ nb = (q, ia g rz.1 rz.2) :: zcells zC (gW g aC) w)) args s 1 2000 (va_A (zcells zC (gW g aC) w) s.heap.size)) (F0 m 0 ls []) := by
    intro H locs hL
    refine lv_aload_n hx hb dL_locations_0 rfl (lv_at hl 0 rfl) ?_
    obtain ⟨x1, hx1, hF⟩ := ob hF
    refine y_C (As := []) (rest := []) X hZ hA [] hL (c_X9_variableCount (l := l) (g := gW g aC) (w := w) (k0 := 0) hx1 rfl) tw_4_156 ms_X9_variableCount im_X9_variableCount cn_9 ⟨Nat.le_of_ble_eq_true rfl, Nat.le_of_ble_eq_true rfl⟩ rfl rfl hl.1 (Nat.le_of_ble_eq_true rfl) dL_locations_1 ⟨Nat.le_of_ble_eq_true rfl, (by first | exact Nat.le_of_ble_eq_true rfl | (show _ ≤ 2000; omega))⟩ rfl (fun H locs hL => ?_)
    refine lv_aload_n hx hb dL_locations_4 rfl (lv_at hl 0 rfl) ?_
    obtain ⟨x2, hx2, hF⟩ := ob hF
    refine y_C (As := []) (rest := [.int x1]) X hZ hA [] hL (c_X9_objectCount (l := l) (g := gW g aC) (w := w) (k0 := 0) hx2 rfl) tw_2_237 ms_X9_objectCount im_X9_objectCount cn_9 ⟨Nat.le_of_ble_eq_true rfl, Nat.le_of_ble_eq_true rfl⟩ rfl rfl hl.1 (Nat.le_of_ble_eq_true rfl) dL_locations_5 ⟨Nat.le_of_ble_eq_true rfl, (by first | exact Nat.le_of_ble_eq_true rfl | (show _ ≤ 2000; omega))⟩ rfl (fun H locs hL => ?_)
    refine lv_aload_n hx hb dL_locations_8 rfl (lv_at hl 0 rfl) ?_
    obtain ⟨x3, hx3, hF⟩ := ob hF
    refine y_C (As := []) (rest := [.int x2, .int x1]) X hZ hA [] hL (c_X9_fieldCount (l := l) (g := gW g aC) (w := w) (k0 := 0) hx3 rfl) tw_4_160 ms_X9_fieldCount im_X9_fieldCount cn_9 ⟨Nat.le_of_ble_eq_true rfl, Nat.le_of_ble_eq_true rfl⟩ rfl rfl hl.1 (Nat.le_of_ble_eq_true rfl) dL_locations_9 ⟨Nat.le_of_ble_eq_true rfl, (by first | exact Nat.le_of_ble_eq_true rfl | (show _ ≤ 2000; omega))⟩ rfl (fun H locs hL => ?_)
    refine lv_imul hx hb dL_locations_12 ?_
    refine lv_iadd hx hb dL_locations_13 ?_
    obtain ⟨n4, hn4, hF⟩ := ob hF
    obtain ⟨hn1, hn2, hn3⟩ := alN_s hn4
    refine x_nint X hL (N := n4) hn1 hn2 (by omega) (Nat.le_of_ble_eq_true rfl) (by show 0 + n4 ≤ 2000; omega) dL_locations_14 (fun qa H hL => ?_)
    have hL : LW g (va_A (zcells zC (gW g aC) w) s.heap.size) ([(qa, ia g n4 (fun _ => 0))] ++ zcells zC (gW g aC) w) s.heap H locs := hL
    refine lv_astore_n (lv' := [(1, .ref qa), (0, .ref (aC 0))]) hx hb dL_locations_16 rfl hl (by decide) rfl (fun ls hl => ?_)
    refine lv_iconst (v := (0 : Int32)) hx hb dL_locations_17 (by decide) ?_
    refine lv_istore_n (lv' := [(2, .int (0 : Int32)), (1, .ref qa), (0, .ref (aC 0))]) hx hb dL_locations_18 rfl hl (by decide) rfl (fun ls hl => ?_)
    refine lv_iconst (v := (0 : Int32)) hx hb dL_locations_19 (by decide) ?_
    refine lv_istore_n (lv' := [(3, .int (0 : Int32)), (2, .int (0 : Int32)), (1, .ref qa), (0, .ref (aC 0))]) hx hb dL_locations_20 rfl hl (by decide) rfl (fun ls hl => ?_)
    obtain ⟨rq5, hrq5, hF⟩ := ob hF
    have Jq5 : ∀ (H : Heap) (locs : List Loc) (ls : Array Slot), LW g (va_A (zcells zC (gW g aC) w) s.heap.size) ([(qa, ia g n4 rq5.2)] ++ zcells zC (gW g aC) w) s.heap H locs → lv_has ls 5 [(0, .ref (aC 0)), (1, .ref qa), (2, .int rq5.1)] → W p l e { frames := 3, cells := 1, slots := 2000, locals := 40 * 3 } s m args below meth c H locs ((0 + 1)) ((0 + n4)) (MQ below (LQc g (zcells zC (gW g aC) w) s.heap.size (fun v nb => ∃ q, v = some (.ref q) ∧ nb = (q, ia g rz.1 rz.2) :: zcells zC (gW g aC) w)) args s 1 2000 (va_A (zcells zC (gW g aC) w) s.heap.size)) (F0 m 42 ls []) := by
      intro H locs ls hL hl
      refine lv_iconst (v := (0 : Int32)) hx hb dL_locations_42 (by decide) ?_
      refine lv_istore_n (lv' := [(3, .int (0 : Int32)), (0, .ref (aC 0)), (1, .ref qa), (2, .int rq5.1)]) hx hb dL_locations_43 rfl hl (by decide) rfl (fun ls hl => ?_)
      obtain ⟨rq9, hrq9, hF⟩ := ob hF
      have Jq9 : ∀ (H : Heap) (locs : List Loc) (ls : Array Slot), LW g (va_A (zcells zC (gW g aC) w) s.heap.size) ([(qa, ia g n4 rq9)] ++ zcells zC (gW g aC) w) s.heap H locs → lv_has ls 5 [(1, .ref qa)] → W p l e { frames := 3, cells := 1, slots := 2000, locals := 40 * 3 } s m args below meth c H locs ((0 + 1)) ((0 + n4)) (MQ below (LQc g (zcells zC (gW g aC) w) s.heap.size (fun v nb => ∃ q, v = some (.ref q) ∧ nb = (q, ia g rz.1 rz.2) :: zcells zC (gW g aC) w)) args s 1 2000 (va_A (zcells zC (gW g aC) w) s.heap.size)) (F0 m 91 ls []) := by
        intro H locs ls hL hl
        refine lv_aload_n hx hb dL_locations_91 rfl (lv_at hl 0 rfl) ?_
        obtain rfl := se1 hF
        exact x_aret X hL hr (Or.inr ⟨_, rfl⟩) ⟨qa, rfl, rfl⟩ (Nat.le_refl _) (by show 0 + _ ≤ 2000; omega) dL_locations_92
      have Lq9 : ∀ (kf : Nat) (sq9 : Int32 × Int32 × (Nat → Int32)), lp (b_L_locations_44 w n4) kf sq9 = some rq9 → ∀ (H : Heap) (locs : List Loc) (ls : Array Slot), LW g (va_A (zcells zC (gW g aC) w) s.heap.size) ([(qa, ia g n4 sq9.2.2)] ++ zcells zC (gW g aC) w) s.heap H locs → lv_has ls 5 [(0, .ref (aC 0)), (1, .ref qa), (2, .int sq9.1), (3, .int sq9.2.1)] → W p l e { frames := 3, cells := 1, slots := 2000, locals := 40 * 3 } s m args below meth c H locs ((0 + 1)) ((0 + n4)) (MQ below (LQc g (zcells zC (gW g aC) w) s.heap.size (fun v nb => ∃ q, v = some (.ref q) ∧ nb = (q, ia g rz.1 rz.2) :: zcells zC (gW g aC) w)) args s 1 2000 (va_A (zcells zC (gW g aC) w) s.heap.size)) (F0 m 44 ls []) := by
        intro kf
        induction kf with
        | zero => intro sq9 hQ; exact lp_0 hQ
        | succ kf ih =>
          intro sq9 hQ H locs ls hL hl
          obtain ⟨bb, hF, hQ⟩ := lp_s hQ
          unfold b_L_locations_44 at hF
          refine lv_iload_n hx hb dL_locations_44 rfl (lv_at hl 3 rfl) ?_
          refine lv_aload_n hx hb dL_locations_45 rfl (lv_at hl 0 rfl) ?_
          obtain ⟨x10, hx10, hF⟩ := ob hF
          refine y_C (As := []) (rest := [.int sq9.2.1]) X hZ hA [(qa, ia g n4 sq9.2.2)] hL (c_X9_objectCount (l := l) (g := gW g aC) (w := w) (k0 := 0) hx10 rfl) tw_2_237 ms_X9_objectCount im_X9_objectCount cn_9 ⟨Nat.le_of_ble_eq_true rfl, Nat.le_of_ble_eq_true rfl⟩ rfl rfl hl.1 (Nat.le_of_ble_eq_true rfl) dL_locations_46 ⟨Nat.le_of_ble_eq_true rfl, (by first | exact Nat.le_of_ble_eq_true rfl | (show _ ≤ 2000; omega))⟩ rfl (fun H locs hL => ?_)
          refine lv_icmp_ge (tgt := 91) hx hb dL_locations_49 (by decide) (fun c11 => ?_) (fun c11 => ?_)
          · replace hF := ifp (c11) hF
            obtain rfl := se1 hF
            subst hQ
            exact Jq9 _ _ _ hL (lv_sub hl [1] rfl)
          · replace hF := ifn (c11) hF
            refine lv_iconst (v := (0 : Int32)) hx hb dL_locations_52 (by decide) ?_
            refine lv_istore (lv' := [(4, .int (0 : Int32)), (0, .ref (aC 0)), (1, .ref qa), (2, .int sq9.1), (3, .int sq9.2.1)]) hx hb dL_locations_53 hl (by decide) rfl (fun ls hl => ?_)
            obtain ⟨rq12, hrq12, hF⟩ := ob hF
            have Jq12 : ∀ (H : Heap) (locs : List Loc) (ls : Array Slot), LW g (va_A (zcells zC (gW g aC) w) s.heap.size) ([(qa, ia g n4 rq12.2)] ++ zcells zC (gW g aC) w) s.heap H locs → lv_has ls 5 [(0, .ref (aC 0)), (1, .ref qa), (2, .int rq12.1), (3, .int sq9.2.1)] → W p l e { frames := 3, cells := 1, slots := 2000, locals := 40 * 3 } s m args below meth c H locs ((0 + 1)) ((0 + n4)) (MQ below (LQc g (zcells zC (gW g aC) w) s.heap.size (fun v nb => ∃ q, v = some (.ref q) ∧ nb = (q, ia g rz.1 rz.2) :: zcells zC (gW g aC) w)) args s 1 2000 (va_A (zcells zC (gW g aC) w) s.heap.size)) (F0 m 85 ls []) := by
              intro H locs ls hL hl
              refine lv_iinc (v := (sq9.2.1 + (1 : Int32))) (lv' := [(3, .int (sq9.2.1 + (1 : Int32))), (0, .ref (aC 0)), (1, .ref qa), (2, .int rq12.1)]) hx hb dL_locations_85 hl (k := 3) rfl rfl (by decide) rfl (fun ls hl => ?_)
              refine lv_goto (tgt := 44) hx hb dL_locations_88 (by decide) ?_
              obtain rfl := se1 hF
              exact ih _ hQ _ _ _ hL (lv_sub hl [1, 2, 3, 0] rfl)
            have Lq12 : ∀ (kf : Nat) (sq12 : Int32 × Int32 × (Nat → Int32)), lp (b_L_locations_55 w n4 sq9) kf sq12 = some rq12 → ∀ (H : Heap) (locs : List Loc) (ls : Array Slot), LW g (va_A (zcells zC (gW g aC) w) s.heap.size) ([(qa, ia g n4 sq12.2.2)] ++ zcells zC (gW g aC) w) s.heap H locs → lv_has ls 5 [(0, .ref (aC 0)), (1, .ref qa), (2, .int sq12.1), (3, .int sq9.2.1), (4, .int sq12.2.1)] → W p l e { frames := 3, cells := 1, slots := 2000, locals := 40 * 3 } s m args below meth c H locs ((0 + 1)) ((0 + n4)) (MQ below (LQc g (zcells zC (gW g aC) w) s.heap.size (fun v nb => ∃ q, v = some (.ref q) ∧ nb = (q, ia g rz.1 rz.2) :: zcells zC (gW g aC) w)) args s 1 2000 (va_A (zcells zC (gW g aC) w) s.heap.size)) (F0 m 55 ls []) := by
              intro kf
              induction kf with
              | zero => intro sq12 hQ; exact lp_0 hQ
              | succ kf ih =>
                intro sq12 hQ H locs ls hL hl
                obtain ⟨bb, hF, hQ⟩ := lp_s hQ
                unfold b_L_locations_55 at hF
                refine lv_iload hx hb dL_locations_55 (lv_at hl 4 rfl) ?_
                refine lv_aload_n hx hb dL_locations_57 rfl (lv_at hl 0 rfl) ?_
                obtain ⟨x13, hx13, hF⟩ := ob hF
                refine y_C (As := []) (rest := [.int sq12.2.1]) X hZ hA [(qa, ia g n4 sq12.2.2)] hL (c_X9_fieldCount (l := l) (g := gW g aC) (w := w) (k0 := 0) hx13 rfl) tw_4_160 ms_X9_fieldCount im_X9_fieldCount cn_9 ⟨Nat.le_of_ble_eq_true rfl, Nat.le_of_ble_eq_true rfl⟩ rfl rfl hl.1 (Nat.le_of_ble_eq_true rfl) dL_locations_58 ⟨Nat.le_of_ble_eq_true rfl, (by first | exact Nat.le_of_ble_eq_true rfl | (show _ ≤ 2000; omega))⟩ rfl (fun H locs hL => ?_)
                refine lv_icmp_ge (tgt := 85) hx hb dL_locations_61 (by decide) (fun c14 => ?_) (fun c14 => ?_)
                · replace hF := ifp (c14) hF
                  obtain rfl := se1 hF
                  subst hQ
                  exact Jq12 _ _ _ hL (lv_sub hl [0, 1, 2, 3] rfl)
                · replace hF := ifn (c14) hF
                  refine lv_aload_n hx hb dL_locations_64 rfl (lv_at hl 1 rfl) ?_
                  refine lv_iload_n hx hb dL_locations_65 rfl (lv_at hl 2 rfl) ?_
                  refine lv_iinc (v := (sq12.1 + (1 : Int32))) (lv' := [(2, .int (sq12.1 + (1 : Int32))), (0, .ref (aC 0)), (1, .ref qa), (3, .int sq9.2.1), (4, .int sq12.2.1)]) hx hb dL_locations_66 hl (k := 2) rfl rfl (by decide) rfl (fun ls hl => ?_)
                  refine lv_bipush (v := (100 : Int32)) hx hb dL_locations_69 (by decide) ?_
                  refine lv_iconst (v := (4 : Int32)) hx hb dL_locations_71 (by decide) ?_
                  refine lv_iload_n hx hb dL_locations_72 rfl (lv_at hl 3 rfl) ?_
                  refine lv_imul hx hb dL_locations_73 ?_
                  refine lv_iadd hx hb dL_locations_74 ?_
                  refine lv_iload hx hb dL_locations_75 (lv_at hl 4 rfl) ?_
                  refine lv_iadd hx hb dL_locations_77 ?_
                  obtain ⟨f15, hf15, hF⟩ := ob hF
                  refine x_iast (k := 0) X hL rfl hf15 dL_locations_78 rfl (fun H locs hL => ?_)
                  have hL : LW g (va_A (zcells zC (gW g aC) w) s.heap.size) ([(qa, ia g n4 f15)] ++ zcells zC (gW g aC) w) s.heap H locs := hL
                  refine lv_iinc (v := (sq12.2.1 + (1 : Int32))) (lv' := [(4, .int (sq12.2.1 + (1 : Int32))), (2, .int (sq12.1 + (1 : Int32))), (0, .ref (aC 0)), (1, .ref qa), (3, .int sq9.2.1)]) hx hb dL_locations_79 hl (k := 4) rfl rfl (by decide) rfl (fun ls hl => ?_)
                  refine lv_goto (tgt := 55) hx hb dL_locations_82 (by decide) ?_
                  obtain rfl := se1 hF
                  exact ih _ hQ _ _ _ hL (lv_sub hl [2, 3, 1, 4, 0] rfl)
            exact Lq12 _ (sq9.1, (0 : Int32), sq9.2.2) hrq12 _ _ _ hL (lv_sub hl [1, 2, 3, 4, 0] rfl)
      exact Lq9 _ (rq5.1, (0 : Int32), rq5.2) hrq9 _ _ _ hL (lv_sub hl [1, 2, 3, 0] rfl)
    have Lq5 : ∀ (kf : Nat) (sq5 : Int32 × Int32 × (Nat → Int32)), lp (b_L_locations_21 w n4) kf sq5 = some rq5 → ∀ (H : Heap) (locs : List Loc) (ls : Array Slot), LW g (va_A (zcells zC (gW g aC) w) s.heap.size) ([(qa, ia g n4 sq5.2.2)] ++ zcells zC (gW g aC) w) s.heap H locs → lv_has ls 5 [(0, .ref (aC 0)), (1, .ref qa), (2, .int sq5.1), (3, .int sq5.2.1)] → W p l e { frames := 3, cells := 1, slots := 2000, locals := 40 * 3 } s m args below meth c H locs ((0 + 1)) ((0 + n4)) (MQ below (LQc g (zcells zC (gW g aC) w) s.heap.size (fun v nb => ∃ q, v = some (.ref q) ∧ nb = (q, ia g rz.1 rz.2) :: zcells zC (gW g aC) w)) args s 1 2000 (va_A (zcells zC (gW g aC) w) s.heap.size)) (F0 m 21 ls []) := by
      intro kf
      induction kf with
      | zero => intro sq5 hQ; exact lp_0 hQ
      | succ kf ih =>
        intro sq5 hQ H locs ls hL hl
        obtain ⟨bb, hF, hQ⟩ := lp_s hQ
        unfold b_L_locations_21 at hF
        refine lv_iload_n hx hb dL_locations_21 rfl (lv_at hl 3 rfl) ?_
        refine lv_aload_n hx hb dL_locations_22 rfl (lv_at hl 0 rfl) ?_
        obtain ⟨x6, hx6, hF⟩ := ob hF
        refine y_C (As := []) (rest := [.int sq5.2.1]) X hZ hA [(qa, ia g n4 sq5.2.2)] hL (c_X9_variableCount (l := l) (g := gW g aC) (w := w) (k0 := 0) hx6 rfl) tw_4_156 ms_X9_variableCount im_X9_variableCount cn_9 ⟨Nat.le_of_ble_eq_true rfl, Nat.le_of_ble_eq_true rfl⟩ rfl rfl hl.1 (Nat.le_of_ble_eq_true rfl) dL_locations_23 ⟨Nat.le_of_ble_eq_true rfl, (by first | exact Nat.le_of_ble_eq_true rfl | (show _ ≤ 2000; omega))⟩ rfl (fun H locs hL => ?_)
        refine lv_icmp_ge (tgt := 42) hx hb dL_locations_26 (by decide) (fun c7 => ?_) (fun c7 => ?_)
        · replace hF := ifp (c7) hF
          obtain rfl := se1 hF
          subst hQ
          exact Jq5 _ _ _ hL (lv_sub hl [0, 1, 2] rfl)
        · replace hF := ifn (c7) hF
          refine lv_aload_n hx hb dL_locations_29 rfl (lv_at hl 1 rfl) ?_
          refine lv_iload_n hx hb dL_locations_30 rfl (lv_at hl 2 rfl) ?_
          refine lv_iinc (v := (sq5.1 + (1 : Int32))) (lv' := [(2, .int (sq5.1 + (1 : Int32))), (0, .ref (aC 0)), (1, .ref qa), (3, .int sq5.2.1)]) hx hb dL_locations_31 hl (k := 2) rfl rfl (by decide) rfl (fun ls hl => ?_)
          refine lv_iload_n hx hb dL_locations_34 rfl (lv_at hl 3 rfl) ?_
          obtain ⟨f8, hf8, hF⟩ := ob hF
          refine x_iast (k := 0) X hL rfl hf8 dL_locations_35 rfl (fun H locs hL => ?_)
          have hL : LW g (va_A (zcells zC (gW g aC) w) s.heap.size) ([(qa, ia g n4 f8)] ++ zcells zC (gW g aC) w) s.heap H locs := hL
          refine lv_iinc (v := (sq5.2.1 + (1 : Int32))) (lv' := [(3, .int (sq5.2.1 + (1 : Int32))), (2, .int (sq5.1 + (1 : Int32))), (0, .ref (aC 0)), (1, .ref qa)]) hx hb dL_locations_36 hl (k := 3) rfl rfl (by decide) rfl (fun ls hl => ?_)
          refine lv_goto (tgt := 21) hx hb dL_locations_39 (by decide) ?_
          obtain rfl := se1 hF
          exact ih _ hQ _ _ _ hL (lv_sub hl [2, 3, 1, 0] rfl)
    exact Lq5 _ ((0 : Int32), (0 : Int32), (fun _ => 0)) hrq5 _ _ _ hL (lv_sub hl [3, 2, 1, 0] rfl)
  exact key _ _ hL
theorem dL_round_0 : decode cL_round 0 = .ok (.sipush 140, 3) := by decide +kernel
theorem dL_round_3 : decode cL_round 3 = .ok (.newarray .int, 2) := by decide +kernel
theorem dL_round_5 : decode cL_round 5 = .ok (.astore_n 2, 1) := by decide +kernel
theorem dL_round_6 : decode cL_round 6 = .ok (.aload_n 1, 1) := by decide +kernel
theorem dL_round_7 : decode cL_round 7 = .ok (.iconst 0, 1) := by decide +kernel
theorem dL_round_8 : decode cL_round 8 = .ok (.aload_n 2, 1) := by decide +kernel
theorem dL_round_9 : decode cL_round 9 = .ok (.iconst 0, 1) := by decide +kernel
theorem dL_round_10 : decode cL_round 10 = .ok (.sipush 140, 3) := by decide +kernel
theorem dL_round_13 : decode cL_round 13 = .ok (.invokestatic 133, 3) := by decide +kernel
theorem dL_round_16 : decode cL_round 16 = .ok (.iconst 0, 1) := by decide +kernel
theorem dL_round_17 : decode cL_round 17 = .ok (.istore_n 3, 1) := by decide +kernel
theorem dL_round_18 : decode cL_round 18 = .ok (.iload_n 3, 1) := by decide +kernel
theorem dL_round_19 : decode cL_round 19 = .ok (.aload_n 0, 1) := by decide +kernel
theorem dL_round_20 : decode cL_round 20 = .ok (.invokevirtual 104, 3) := by decide +kernel
theorem dL_round_23 : decode cL_round 23 = .ok (.if_icmp .ge 225, 3) := by decide +kernel
theorem dL_round_26 : decode cL_round 26 = .ok (.aload_n 0, 1) := by decide +kernel
theorem dL_round_27 : decode cL_round 27 = .ok (.iload_n 3, 1) := by decide +kernel
theorem dL_round_28 : decode cL_round 28 = .ok (.iconst 0, 1) := by decide +kernel
theorem dL_round_29 : decode cL_round 29 = .ok (.invokevirtual 139, 3) := by decide +kernel
theorem dL_round_32 : decode cL_round 32 = .ok (.istore 4, 2) := by decide +kernel
theorem dL_round_34 : decode cL_round 34 = .ok (.aload_n 0, 1) := by decide +kernel
theorem dL_round_35 : decode cL_round 35 = .ok (.iload_n 3, 1) := by decide +kernel
theorem dL_round_36 : decode cL_round 36 = .ok (.iconst 1, 1) := by decide +kernel
theorem dL_round_37 : decode cL_round 37 = .ok (.invokevirtual 139, 3) := by decide +kernel
theorem dL_round_40 : decode cL_round 40 = .ok (.istore 5, 2) := by decide +kernel
theorem dL_round_42 : decode cL_round 42 = .ok (.aload_n 0, 1) := by decide +kernel
theorem dL_round_43 : decode cL_round 43 = .ok (.iload_n 3, 1) := by decide +kernel
theorem dL_round_44 : decode cL_round 44 = .ok (.iconst 2, 1) := by decide +kernel
theorem dL_round_45 : decode cL_round 45 = .ok (.invokevirtual 139, 3) := by decide +kernel
theorem dL_round_48 : decode cL_round 48 = .ok (.istore 6, 2) := by decide +kernel
theorem dL_round_50 : decode cL_round 50 = .ok (.aload_n 0, 1) := by decide +kernel
theorem dL_round_51 : decode cL_round 51 = .ok (.iload_n 3, 1) := by decide +kernel
theorem dL_round_52 : decode cL_round 52 = .ok (.invokevirtual 142, 3) := by decide +kernel
theorem dL_round_55 : decode cL_round 55 = .ok (.istore 7, 2) := by decide +kernel
theorem dL_round_57 : decode cL_round 57 = .ok (.iload 7, 2) := by decide +kernel
theorem dL_round_59 : decode cL_round 59 = .ok (.ifCond .ne 14, 3) := by decide +kernel
theorem dL_round_62 : decode cL_round 62 = .ok (.aload_n 2, 1) := by decide +kernel
theorem dL_round_63 : decode cL_round 63 = .ok (.iload 4, 2) := by decide +kernel
theorem dL_round_65 : decode cL_round 65 = .ok (.dup2, 1) := by decide +kernel
theorem dL_round_66 : decode cL_round 66 = .ok (.iaload, 1) := by decide +kernel
theorem dL_round_67 : decode cL_round 67 = .ok (.iconst 1, 1) := by decide +kernel
theorem dL_round_68 : decode cL_round 68 = .ok (.iload 5, 2) := by decide +kernel
theorem dL_round_70 : decode cL_round 70 = .ok (.ishl, 1) := by decide +kernel
theorem dL_round_71 : decode cL_round 71 = .ok (.ior, 1) := by decide +kernel
theorem dL_round_72 : decode cL_round 72 = .ok (.iastore, 1) := by decide +kernel
theorem dL_round_73 : decode cL_round 73 = .ok (.iload 7, 2) := by decide +kernel
theorem dL_round_75 : decode cL_round 75 = .ok (.iconst 1, 1) := by decide +kernel
theorem dL_round_76 : decode cL_round 76 = .ok (.if_icmp .ne 14, 3) := by decide +kernel
theorem dL_round_79 : decode cL_round 79 = .ok (.aload_n 2, 1) := by decide +kernel
theorem dL_round_80 : decode cL_round 80 = .ok (.iload 4, 2) := by decide +kernel
theorem dL_round_82 : decode cL_round 82 = .ok (.dup2, 1) := by decide +kernel
theorem dL_round_83 : decode cL_round 83 = .ok (.iaload, 1) := by decide +kernel
theorem dL_round_84 : decode cL_round 84 = .ok (.aload_n 1, 1) := by decide +kernel
theorem dL_round_85 : decode cL_round 85 = .ok (.iload 5, 2) := by decide +kernel
theorem dL_round_87 : decode cL_round 87 = .ok (.iaload, 1) := by decide +kernel
theorem dL_round_88 : decode cL_round 88 = .ok (.ior, 1) := by decide +kernel
theorem dL_round_89 : decode cL_round 89 = .ok (.iastore, 1) := by decide +kernel
theorem dL_round_90 : decode cL_round 90 = .ok (.iconst 0, 1) := by decide +kernel
theorem dL_round_91 : decode cL_round 91 = .ok (.istore 8, 2) := by decide +kernel
theorem dL_round_93 : decode cL_round 93 = .ok (.iload 8, 2) := by decide +kernel
theorem dL_round_95 : decode cL_round 95 = .ok (.aload_n 0, 1) := by decide +kernel
theorem dL_round_96 : decode cL_round 96 = .ok (.invokevirtual 80, 3) := by decide +kernel
theorem dL_round_99 : decode cL_round 99 = .ok (.if_icmp .ge 143, 3) := by decide +kernel
theorem dL_round_102 : decode cL_round 102 = .ok (.iload 7, 2) := by decide +kernel
theorem dL_round_104 : decode cL_round 104 = .ok (.iconst 2, 1) := by decide +kernel
theorem dL_round_105 : decode cL_round 105 = .ok (.if_icmp .ne 34, 3) := by decide +kernel
theorem dL_round_108 : decode cL_round 108 = .ok (.aload_n 1, 1) := by decide +kernel
theorem dL_round_109 : decode cL_round 109 = .ok (.iload 5, 2) := by decide +kernel
theorem dL_round_111 : decode cL_round 111 = .ok (.iaload, 1) := by decide +kernel
theorem dL_round_112 : decode cL_round 112 = .ok (.iload 8, 2) := by decide +kernel
theorem dL_round_114 : decode cL_round 114 = .ok (.invokestatic 114, 3) := by decide +kernel
theorem dL_round_117 : decode cL_round 117 = .ok (.ifCond .eq 22, 3) := by decide +kernel
theorem dL_round_120 : decode cL_round 120 = .ok (.aload_n 2, 1) := by decide +kernel
theorem dL_round_121 : decode cL_round 121 = .ok (.iload 4, 2) := by decide +kernel
theorem dL_round_123 : decode cL_round 123 = .ok (.dup2, 1) := by decide +kernel
theorem dL_round_124 : decode cL_round 124 = .ok (.iaload, 1) := by decide +kernel
theorem dL_round_125 : decode cL_round 125 = .ok (.aload_n 1, 1) := by decide +kernel
theorem dL_round_126 : decode cL_round 126 = .ok (.bipush 100, 2) := by decide +kernel
theorem dL_round_128 : decode cL_round 128 = .ok (.iconst 4, 1) := by decide +kernel
theorem dL_round_129 : decode cL_round 129 = .ok (.iload 8, 2) := by decide +kernel
theorem dL_round_131 : decode cL_round 131 = .ok (.imul, 1) := by decide +kernel
theorem dL_round_132 : decode cL_round 132 = .ok (.iadd, 1) := by decide +kernel
theorem dL_round_133 : decode cL_round 133 = .ok (.iload 6, 2) := by decide +kernel
theorem dL_round_135 : decode cL_round 135 = .ok (.iadd, 1) := by decide +kernel
theorem dL_round_136 : decode cL_round 136 = .ok (.iaload, 1) := by decide +kernel
theorem dL_round_137 : decode cL_round 137 = .ok (.ior, 1) := by decide +kernel
theorem dL_round_138 : decode cL_round 138 = .ok (.iastore, 1) := by decide +kernel
theorem dL_round_139 : decode cL_round 139 = .ok (.iload 7, 2) := by decide +kernel
theorem dL_round_141 : decode cL_round 141 = .ok (.iconst 3, 1) := by decide +kernel
theorem dL_round_142 : decode cL_round 142 = .ok (.if_icmp .ne 34, 3) := by decide +kernel
theorem dL_round_145 : decode cL_round 145 = .ok (.aload_n 1, 1) := by decide +kernel
theorem dL_round_146 : decode cL_round 146 = .ok (.iload 4, 2) := by decide +kernel
theorem dL_round_148 : decode cL_round 148 = .ok (.iaload, 1) := by decide +kernel
theorem dL_round_149 : decode cL_round 149 = .ok (.iload 8, 2) := by decide +kernel
theorem dL_round_151 : decode cL_round 151 = .ok (.invokestatic 114, 3) := by decide +kernel
theorem dL_round_154 : decode cL_round 154 = .ok (.ifCond .eq 22, 3) := by decide +kernel
theorem dL_round_157 : decode cL_round 157 = .ok (.aload_n 2, 1) := by decide +kernel
theorem dL_round_158 : decode cL_round 158 = .ok (.bipush 100, 2) := by decide +kernel
theorem dL_round_160 : decode cL_round 160 = .ok (.iconst 4, 1) := by decide +kernel
theorem dL_round_161 : decode cL_round 161 = .ok (.iload 8, 2) := by decide +kernel
theorem dL_round_163 : decode cL_round 163 = .ok (.imul, 1) := by decide +kernel
theorem dL_round_164 : decode cL_round 164 = .ok (.iadd, 1) := by decide +kernel
theorem dL_round_165 : decode cL_round 165 = .ok (.iload 5, 2) := by decide +kernel
theorem dL_round_167 : decode cL_round 167 = .ok (.iadd, 1) := by decide +kernel
theorem dL_round_168 : decode cL_round 168 = .ok (.dup2, 1) := by decide +kernel
theorem dL_round_169 : decode cL_round 169 = .ok (.iaload, 1) := by decide +kernel
theorem dL_round_170 : decode cL_round 170 = .ok (.aload_n 1, 1) := by decide +kernel
theorem dL_round_171 : decode cL_round 171 = .ok (.iload 6, 2) := by decide +kernel
theorem dL_round_173 : decode cL_round 173 = .ok (.iaload, 1) := by decide +kernel
theorem dL_round_174 : decode cL_round 174 = .ok (.ior, 1) := by decide +kernel
theorem dL_round_175 : decode cL_round 175 = .ok (.iastore, 1) := by decide +kernel
theorem dL_round_176 : decode cL_round 176 = .ok (.iload 7, 2) := by decide +kernel
theorem dL_round_178 : decode cL_round 178 = .ok (.iconst 4, 1) := by decide +kernel
theorem dL_round_179 : decode cL_round 179 = .ok (.if_icmp .ne 57, 3) := by decide +kernel
theorem dL_round_182 : decode cL_round 182 = .ok (.aload_n 1, 1) := by decide +kernel
theorem dL_round_183 : decode cL_round 183 = .ok (.iload 5, 2) := by decide +kernel
theorem dL_round_185 : decode cL_round 185 = .ok (.iaload, 1) := by decide +kernel
theorem dL_round_186 : decode cL_round 186 = .ok (.iload 8, 2) := by decide +kernel
theorem dL_round_188 : decode cL_round 188 = .ok (.invokestatic 114, 3) := by decide +kernel
theorem dL_round_191 : decode cL_round 191 = .ok (.ifCond .eq 45, 3) := by decide +kernel
theorem dL_round_194 : decode cL_round 194 = .ok (.aload_n 0, 1) := by decide +kernel
theorem dL_round_195 : decode cL_round 195 = .ok (.iload 8, 2) := by decide +kernel
theorem dL_round_197 : decode cL_round 197 = .ok (.invokevirtual 145, 3) := by decide +kernel
theorem dL_round_200 : decode cL_round 200 = .ok (.ifCond .ge 6, 3) := by decide +kernel
theorem dL_round_203 : decode cL_round 203 = .ok (.goto 33, 3) := by decide +kernel
theorem dL_round_206 : decode cL_round 206 = .ok (.aload_n 2, 1) := by decide +kernel
theorem dL_round_207 : decode cL_round 207 = .ok (.aload_n 0, 1) := by decide +kernel
theorem dL_round_208 : decode cL_round 208 = .ok (.iload 8, 2) := by decide +kernel
theorem dL_round_210 : decode cL_round 210 = .ok (.invokevirtual 145, 3) := by decide +kernel
theorem dL_round_213 : decode cL_round 213 = .ok (.dup2, 1) := by decide +kernel
theorem dL_round_214 : decode cL_round 214 = .ok (.iaload, 1) := by decide +kernel
theorem dL_round_215 : decode cL_round 215 = .ok (.aload_n 1, 1) := by decide +kernel
theorem dL_round_216 : decode cL_round 216 = .ok (.iload 6, 2) := by decide +kernel
theorem dL_round_218 : decode cL_round 218 = .ok (.iaload, 1) := by decide +kernel
theorem dL_round_219 : decode cL_round 219 = .ok (.ior, 1) := by decide +kernel
theorem dL_round_220 : decode cL_round 220 = .ok (.iastore, 1) := by decide +kernel
theorem dL_round_221 : decode cL_round 221 = .ok (.aload_n 2, 1) := by decide +kernel
theorem dL_round_222 : decode cL_round 222 = .ok (.iload 4, 2) := by decide +kernel
theorem dL_round_224 : decode cL_round 224 = .ok (.dup2, 1) := by decide +kernel
theorem dL_round_225 : decode cL_round 225 = .ok (.iaload, 1) := by decide +kernel
theorem dL_round_226 : decode cL_round 226 = .ok (.aload_n 1, 1) := by decide +kernel
theorem dL_round_227 : decode cL_round 227 = .ok (.aload_n 0, 1) := by decide +kernel
theorem dL_round_228 : decode cL_round 228 = .ok (.iload 8, 2) := by decide +kernel
theorem dL_round_230 : decode cL_round 230 = .ok (.invokevirtual 148, 3) := by decide +kernel
theorem dL_round_233 : decode cL_round 233 = .ok (.iaload, 1) := by decide +kernel
theorem dL_round_234 : decode cL_round 234 = .ok (.ior, 1) := by decide +kernel
theorem dL_round_235 : decode cL_round 235 = .ok (.iastore, 1) := by decide +kernel
theorem dL_round_236 : decode cL_round 236 = .ok (.iinc 8 1, 3) := by decide +kernel
theorem dL_round_239 : decode cL_round 239 = .ok (.goto (-146), 3) := by decide +kernel
theorem dL_round_242 : decode cL_round 242 = .ok (.iinc 3 1, 3) := by decide +kernel
theorem dL_round_245 : decode cL_round 245 = .ok (.goto (-227), 3) := by decide +kernel
theorem dL_round_248 : decode cL_round 248 = .ok (.aload_n 2, 1) := by decide +kernel
theorem dL_round_249 : decode cL_round 249 = .ok (.areturn, 1) := by decide +kernel
theorem ms_L_round : MSt yL_round cL_round 9 (some (.array .int)) 2 := ⟨tw_4_166, tw_1_0, by decide, by decide, by decide +kernel⟩
set_option maxHeartbeats 8000000 in
set_option maxRecDepth 100000 in
theorem c_L_round {l : Launch} {g : Gh} {Lx : Nat × (Nat → Int32)} {aC : Nat → Nat} {w : Wd} {a1 : Nat} {f1 rz : Nat → Int32} (hF : f_L_round w f1 = some rz) (hA : ∀ k, 1000 ≤ k → aC k = g.2.2 k) : LMt l Lx g yL_round cL_round 9 (some (.array .int)) 4 1 140 ([(a1, ia g 140 f1)] ++ zcells zC (gW g aC) w) [.ref (aC 0), .ref a1] (fun v nb => ∃ q, v = some (.ref q) ∧ nb = [(q, ia g 140 rz), (a1, ia g 140 f1)] ++ zcells zC (gW g aC) w) := by
  refine lm_start (by decide) (Nat.le_of_ble_eq_true rfl) ?_
  intro p e s m args below meth c ls X hZ hnm hr hl hL
  have hx := X.1
  have hb := X.2.1
  have hown := X.2.2.2.1
  have ht := X.2.2.2.2.1
  have hl : lv_has ls 9 [(0, .ref (aC 0)), (1, .ref a1)] := hl
  have hL : LW g (va_A ([(a1, ia g 140 f1)] ++ zcells zC (gW g aC) w) s.heap.size) ([(a1, ia g 140 f1)] ++ zcells zC (gW g aC) w) s.heap s.heap [] := hL
  unfold f_L_round at hF
  have key : ∀ (H : Heap) (locs : List Loc), LW g (va_A ([(a1, ia g 140 f1)] ++ zcells zC (gW g aC) w) s.heap.size) ([(a1, ia g 140 f1)] ++ zcells zC (gW g aC) w) s.heap H locs → W p l e { frames := 4, cells := 1, slots := 140, locals := 40 * 4 } s m args below meth c H locs 0 0 (MQ below (LQc g ([(a1, ia g 140 f1)] ++ zcells zC (gW g aC) w) s.heap.size (fun v nb => ∃ q, v = some (.ref q) ∧ nb = [(q, ia g 140 rz), (a1, ia g 140 f1)] ++ zcells zC (gW g aC) w)) args s 1 140 (va_A ([(a1, ia g 140 f1)] ++ zcells zC (gW g aC) w) s.heap.size)) (F0 m 0 ls []) := by
    intro H locs hL
    refine lv_sipush (v := (140 : Int32)) hx hb dL_round_0 (by decide) ?_
    refine x_nint X hL (N := 140) (by decide) (by decide) (by decide) (Nat.le_of_ble_eq_true rfl) (Nat.le_of_ble_eq_true rfl) dL_round_3 (fun qa H hL => ?_)
    have hL : LW g (va_A ([(a1, ia g 140 f1)] ++ zcells zC (gW g aC) w) s.heap.size) ([(qa, ia g 140 (fun _ => 0)), (a1, ia g 140 f1)] ++ zcells zC (gW g aC) w) s.heap H locs := hL
    refine lv_astore_n (lv' := [(2, .ref qa), (0, .ref (aC 0)), (1, .ref a1)]) hx hb dL_round_5 rfl hl (by decide) rfl (fun ls hl => ?_)
    refine lv_aload_n hx hb dL_round_6 rfl (lv_at hl 2 rfl) ?_
    refine lv_iconst (v := (0 : Int32)) hx hb dL_round_7 (by decide) ?_
    refine lv_aload_n hx hb dL_round_8 rfl (lv_at hl 0 rfl) ?_
    refine lv_iconst (v := (0 : Int32)) hx hb dL_round_9 (by decide) ?_
    refine lv_sipush (v := (140 : Int32)) hx hb dL_round_10 (by decide) ?_
    refine x_icopy (j := 1) (k := 0) (a := a1) (b := qa) (rest := []) X hL rfl rfl tw_4_167 tw_2_179 tw_2_178 tw_1_16 (by decide) (by decide) (by decide) (by decide) (by decide) hl.1 (Nat.le_of_ble_eq_true rfl) (Nat.le_of_ble_eq_true rfl) dL_round_13 rfl (fun H locs hL => ?_)
    have hL : LW g (va_A ([(a1, ia g 140 f1)] ++ zcells zC (gW g aC) w) s.heap.size) ([(qa, ia g 140 (va_cpy f1 (fun _ => 0) 0 0 140)), (a1, ia g 140 f1)] ++ zcells zC (gW g aC) w) s.heap H locs := hL
    refine lv_iconst (v := (0 : Int32)) hx hb dL_round_16 (by decide) ?_
    refine lv_istore_n (lv' := [(3, .int (0 : Int32)), (2, .ref qa), (0, .ref (aC 0)), (1, .ref a1)]) hx hb dL_round_17 rfl hl (by decide) rfl (fun ls hl => ?_)
    obtain ⟨rq1, hrq1, hF⟩ := ob hF
    have Jq1 : ∀ (H : Heap) (locs : List Loc) (ls : Array Slot), LW g (va_A ([(a1, ia g 140 f1)] ++ zcells zC (gW g aC) w) s.heap.size) ([(qa, ia g 140 rq1), (a1, ia g 140 f1)] ++ zcells zC (gW g aC) w) s.heap H locs → lv_has ls 9 [(2, .ref qa)] → W p l e { frames := 4, cells := 1, slots := 140, locals := 40 * 4 } s m args below meth c H locs ((0 + 1)) ((0 + 140)) (MQ below (LQc g ([(a1, ia g 140 f1)] ++ zcells zC (gW g aC) w) s.heap.size (fun v nb => ∃ q, v = some (.ref q) ∧ nb = [(q, ia g 140 rz), (a1, ia g 140 f1)] ++ zcells zC (gW g aC) w)) args s 1 140 (va_A ([(a1, ia g 140 f1)] ++ zcells zC (gW g aC) w) s.heap.size)) (F0 m 248 ls []) := by
      intro H locs ls hL hl
      refine lv_aload_n hx hb dL_round_248 rfl (lv_at hl 0 rfl) ?_
      obtain rfl := se1 hF
      exact x_aret X hL hr (Or.inr ⟨_, rfl⟩) ⟨qa, rfl, rfl⟩ (Nat.le_refl _) (Nat.le_refl _) dL_round_249
    have Lq1 : ∀ (kf : Nat) (sq1 : Int32 × (Nat → Int32)), lp (b_L_round_18 w f1) kf sq1 = some rq1 → ∀ (H : Heap) (locs : List Loc) (ls : Array Slot), LW g (va_A ([(a1, ia g 140 f1)] ++ zcells zC (gW g aC) w) s.heap.size) ([(qa, ia g 140 sq1.2), (a1, ia g 140 f1)] ++ zcells zC (gW g aC) w) s.heap H locs → lv_has ls 9 [(0, .ref (aC 0)), (1, .ref a1), (2, .ref qa), (3, .int sq1.1)] → W p l e { frames := 4, cells := 1, slots := 140, locals := 40 * 4 } s m args below meth c H locs ((0 + 1)) ((0 + 140)) (MQ below (LQc g ([(a1, ia g 140 f1)] ++ zcells zC (gW g aC) w) s.heap.size (fun v nb => ∃ q, v = some (.ref q) ∧ nb = [(q, ia g 140 rz), (a1, ia g 140 f1)] ++ zcells zC (gW g aC) w)) args s 1 140 (va_A ([(a1, ia g 140 f1)] ++ zcells zC (gW g aC) w) s.heap.size)) (F0 m 18 ls []) := by
      intro kf
      induction kf with
      | zero => intro sq1 hQ; exact lp_0 hQ
      | succ kf ih =>
        intro sq1 hQ H locs ls hL hl
        obtain ⟨bb, hF, hQ⟩ := lp_s hQ
        unfold b_L_round_18 at hF
        have J90 : ∀ (v4_90 : Int32) (v5_90 : Int32) (v6_90 : Int32) (v7_90 : Int32) (fqa_90 : Nat → Int32) (H : Heap) (locs : List Loc) (ls : Array Slot), k_L_round_90 w f1 sq1 v4_90 v5_90 v6_90 v7_90 fqa_90 = some bb → LW g (va_A ([(a1, ia g 140 f1)] ++ zcells zC (gW g aC) w) s.heap.size) ([(qa, ia g 140 fqa_90), (a1, ia g 140 f1)] ++ zcells zC (gW g aC) w) s.heap H locs → lv_has ls 9 [(0, .ref (aC 0)), (1, .ref a1), (2, .ref qa), (3, .int sq1.1), (4, .int v4_90), (5, .int v5_90), (6, .int v6_90), (7, .int v7_90)] → W p l e { frames := 4, cells := 1, slots := 140, locals := 40 * 4 } s m args below meth c H locs ((0 + 1)) ((0 + 140)) (MQ below (LQc g ([(a1, ia g 140 f1)] ++ zcells zC (gW g aC) w) s.heap.size (fun v nb => ∃ q, v = some (.ref q) ∧ nb = [(q, ia g 140 rz), (a1, ia g 140 f1)] ++ zcells zC (gW g aC) w)) args s 1 140 (va_A ([(a1, ia g 140 f1)] ++ zcells zC (gW g aC) w) s.heap.size)) (F0 m 90 ls []) := by
          intro v4_90 v5_90 v6_90 v7_90 fqa_90 H locs ls hF hL hl
          unfold k_L_round_90 at hF
          refine lv_iconst (v := (0 : Int32)) hx hb dL_round_90 (by decide) ?_
          refine lv_istore (lv' := [(8, .int (0 : Int32)), (0, .ref (aC 0)), (1, .ref a1), (2, .ref qa), (3, .int sq1.1), (4, .int v4_90), (5, .int v5_90), (6, .int v6_90), (7, .int v7_90)]) hx hb dL_round_91 hl (by decide) rfl (fun ls hl => ?_)
          obtain ⟨rq2, hrq2, hF⟩ := ob hF
          have Jq2 : ∀ (H : Heap) (locs : List Loc) (ls : Array Slot), LW g (va_A ([(a1, ia g 140 f1)] ++ zcells zC (gW g aC) w) s.heap.size) ([(qa, ia g 140 rq2), (a1, ia g 140 f1)] ++ zcells zC (gW g aC) w) s.heap H locs → lv_has ls 9 [(0, .ref (aC 0)), (1, .ref a1), (2, .ref qa), (3, .int sq1.1)] → W p l e { frames := 4, cells := 1, slots := 140, locals := 40 * 4 } s m args below meth c H locs ((0 + 1)) ((0 + 140)) (MQ below (LQc g ([(a1, ia g 140 f1)] ++ zcells zC (gW g aC) w) s.heap.size (fun v nb => ∃ q, v = some (.ref q) ∧ nb = [(q, ia g 140 rz), (a1, ia g 140 f1)] ++ zcells zC (gW g aC) w)) args s 1 140 (va_A ([(a1, ia g 140 f1)] ++ zcells zC (gW g aC) w) s.heap.size)) (F0 m 242 ls []) := by
            intro H locs ls hL hl
            refine lv_iinc (v := (sq1.1 + (1 : Int32))) (lv' := [(3, .int (sq1.1 + (1 : Int32))), (0, .ref (aC 0)), (1, .ref a1), (2, .ref qa)]) hx hb dL_round_242 hl (k := 3) rfl rfl (by decide) rfl (fun ls hl => ?_)
            refine lv_goto (tgt := 18) hx hb dL_round_245 (by decide) ?_
            obtain rfl := se1 hF
            exact ih _ hQ _ _ _ hL (lv_sub hl [1, 2, 3, 0] rfl)
          have Lq2 : ∀ (kf : Nat) (sq2 : Int32 × (Nat → Int32)), lp (b_L_round_93 w v7_90 f1 v5_90 v6_90 v4_90) kf sq2 = some rq2 → ∀ (H : Heap) (locs : List Loc) (ls : Array Slot), LW g (va_A ([(a1, ia g 140 f1)] ++ zcells zC (gW g aC) w) s.heap.size) ([(qa, ia g 140 sq2.2), (a1, ia g 140 f1)] ++ zcells zC (gW g aC) w) s.heap H locs → lv_has ls 9 [(0, .ref (aC 0)), (1, .ref a1), (2, .ref qa), (3, .int sq1.1), (4, .int v4_90), (5, .int v5_90), (6, .int v6_90), (7, .int v7_90), (8, .int sq2.1)] → W p l e { frames := 4, cells := 1, slots := 140, locals := 40 * 4 } s m args below meth c H locs ((0 + 1)) ((0 + 140)) (MQ below (LQc g ([(a1, ia g 140 f1)] ++ zcells zC (gW g aC) w) s.heap.size (fun v nb => ∃ q, v = some (.ref q) ∧ nb = [(q, ia g 140 rz), (a1, ia g 140 f1)] ++ zcells zC (gW g aC) w)) args s 1 140 (va_A ([(a1, ia g 140 f1)] ++ zcells zC (gW g aC) w) s.heap.size)) (F0 m 93 ls []) := by
            intro kf
            induction kf with
            | zero => intro sq2 hQ; exact lp_0 hQ
            | succ kf ih =>
              intro sq2 hQ H locs ls hL hl
              obtain ⟨bb, hF, hQ⟩ := lp_s hQ
              unfold b_L_round_93 at hF
              have J236 : ∀ (fqa_236 : Nat → Int32) (H : Heap) (locs : List Loc) (ls : Array Slot), k_L_round_236 sq2 fqa_236 = some bb → LW g (va_A ([(a1, ia g 140 f1)] ++ zcells zC (gW g aC) w) s.heap.size) ([(qa, ia g 140 fqa_236), (a1, ia g 140 f1)] ++ zcells zC (gW g aC) w) s.heap H locs → lv_has ls 9 [(0, .ref (aC 0)), (1, .ref a1), (2, .ref qa), (3, .int sq1.1), (4, .int v4_90), (5, .int v5_90), (6, .int v6_90), (7, .int v7_90), (8, .int sq2.1)] → W p l e { frames := 4, cells := 1, slots := 140, locals := 40 * 4 } s m args below meth c H locs ((0 + 1)) ((0 + 140)) (MQ below (LQc g ([(a1, ia g 140 f1)] ++ zcells zC (gW g aC) w) s.heap.size (fun v nb => ∃ q, v = some (.ref q) ∧ nb = [(q, ia g 140 rz), (a1, ia g 140 f1)] ++ zcells zC (gW g aC) w)) args s 1 140 (va_A ([(a1, ia g 140 f1)] ++ zcells zC (gW g aC) w) s.heap.size)) (F0 m 236 ls []) := by
                intro fqa_236 H locs ls hF hL hl
                unfold k_L_round_236 at hF
                refine lv_iinc (v := (sq2.1 + (1 : Int32))) (lv' := [(8, .int (sq2.1 + (1 : Int32))), (0, .ref (aC 0)), (1, .ref a1), (2, .ref qa), (3, .int sq1.1), (4, .int v4_90), (5, .int v5_90), (6, .int v6_90), (7, .int v7_90)]) hx hb dL_round_236 hl (k := 8) rfl rfl (by decide) rfl (fun ls hl => ?_)
                refine lv_goto (tgt := 93) hx hb dL_round_239 (by decide) ?_
                obtain rfl := se1 hF
                exact ih _ hQ _ _ _ hL (lv_sub hl [1, 2, 3, 4, 5, 6, 7, 8, 0] rfl)
              have J176 : ∀ (fqa_176 : Nat → Int32) (H : Heap) (locs : List Loc) (ls : Array Slot), k_L_round_176 v7_90 sq2 f1 v5_90 w v6_90 v4_90 fqa_176 = some bb → LW g (va_A ([(a1, ia g 140 f1)] ++ zcells zC (gW g aC) w) s.heap.size) ([(qa, ia g 140 fqa_176), (a1, ia g 140 f1)] ++ zcells zC (gW g aC) w) s.heap H locs → lv_has ls 9 [(0, .ref (aC 0)), (1, .ref a1), (2, .ref qa), (3, .int sq1.1), (4, .int v4_90), (5, .int v5_90), (6, .int v6_90), (7, .int v7_90), (8, .int sq2.1)] → W p l e { frames := 4, cells := 1, slots := 140, locals := 40 * 4 } s m args below meth c H locs ((0 + 1)) ((0 + 140)) (MQ below (LQc g ([(a1, ia g 140 f1)] ++ zcells zC (gW g aC) w) s.heap.size (fun v nb => ∃ q, v = some (.ref q) ∧ nb = [(q, ia g 140 rz), (a1, ia g 140 f1)] ++ zcells zC (gW g aC) w)) args s 1 140 (va_A ([(a1, ia g 140 f1)] ++ zcells zC (gW g aC) w) s.heap.size)) (F0 m 176 ls []) := by
                intro fqa_176 H locs ls hF hL hl
                unfold k_L_round_176 at hF
                refine lv_iload hx hb dL_round_176 (lv_at hl 7 rfl) ?_
                refine lv_iconst (v := (4 : Int32)) hx hb dL_round_178 (by decide) ?_
                refine lv_icmp_ne (tgt := 236) hx hb dL_round_179 (by decide) (fun c3 => ?_) (fun c3 => ?_)
                · replace hF := ifp (c3) hF
                  exact J236 fqa_176 _ _ _ hF hL (lv_sub hl [0, 1, 2, 3, 4, 5, 6, 7, 8] rfl)
                · replace hF := ifn (fun q => q c3) hF
                  refine lv_aload_n hx hb dL_round_182 rfl (lv_at hl 1 rfl) ?_
                  refine lv_iload hx hb dL_round_183 (lv_at hl 5 rfl) ?_
                  obtain ⟨x4, hx4, hF⟩ := ob hF
                  refine x_iald (k := 1) X hL rfl hx4 dL_round_185 ?_
                  refine lv_iload hx hb dL_round_186 (lv_at hl 8 rfl) ?_
                  refine x_callLS (As := [.int x4, .int sq2.1]) (rest := []) X hZ ([(qa, ia g 140 fqa_176), (a1, ia g 140 f1)] ++ zcells zC (gW g aC) w) [] (by rw [List.append_nil]; exact hL) k_has tw_4_150 ms_L_has tw_4_151 ⟨Nat.le_of_ble_eq_true rfl, Nat.le_of_ble_eq_true rfl⟩ rfl rfl hl.1 (Nat.le_of_ble_eq_true rfl) dL_round_188 ⟨Nat.le_of_ble_eq_true rfl, Nat.le_of_ble_eq_true rfl⟩ (fun v nb H locs hB hL => ?_)
                  obtain ⟨rfl, rfl⟩ := hB
                  rw [List.append_nil] at hL
                  refine lv_if_eq (tgt := 236) hx hb dL_round_191 (by decide) (fun c5 => ?_) (fun c5 => ?_)
                  · replace hF := ifp (c5) hF
                    exact J236 fqa_176 _ _ _ hF hL (lv_sub hl [0, 1, 2, 3, 4, 5, 6, 7, 8] rfl)
                  · replace hF := ifn (c5) hF
                    refine lv_aload_n hx hb dL_round_194 rfl (lv_at hl 0 rfl) ?_
                    refine lv_iload hx hb dL_round_195 (lv_at hl 8 rfl) ?_
                    obtain ⟨x6, hx6, hF⟩ := ob hF
                    refine y_C (As := [.int sq2.1]) (rest := []) X hZ hA [(qa, ia g 140 fqa_176), (a1, ia g 140 f1)] hL (c_X9_parameterOf (l := l) (g := gW g aC) (w := w) (k0 := 0) (v_object := sq2.1) hx6 rfl) tw_5_10 ms_X9_parameterOf im_X9_parameterOf cn_9 ⟨Nat.le_of_ble_eq_true rfl, Nat.le_of_ble_eq_true rfl⟩ rfl rfl hl.1 (Nat.le_of_ble_eq_true rfl) dL_round_197 ⟨Nat.le_of_ble_eq_true rfl, Nat.le_of_ble_eq_true rfl⟩ rfl (fun H locs hL => ?_)
                    refine lv_if_ge (tgt := 206) hx hb dL_round_200 (by decide) (fun c7 => ?_) (fun c7 => ?_)
                    · replace hF := ifp (c7) hF
                      refine lv_aload_n hx hb dL_round_206 rfl (lv_at hl 2 rfl) ?_
                      refine lv_aload_n hx hb dL_round_207 rfl (lv_at hl 0 rfl) ?_
                      refine lv_iload hx hb dL_round_208 (lv_at hl 8 rfl) ?_
                      obtain ⟨x8, hx8, hF⟩ := ob hF
                      refine y_C (As := [.int sq2.1]) (rest := [.ref qa]) X hZ hA [(qa, ia g 140 fqa_176), (a1, ia g 140 f1)] hL (c_X9_parameterOf (l := l) (g := gW g aC) (w := w) (k0 := 0) (v_object := sq2.1) hx8 rfl) tw_5_10 ms_X9_parameterOf im_X9_parameterOf cn_9 ⟨Nat.le_of_ble_eq_true rfl, Nat.le_of_ble_eq_true rfl⟩ rfl rfl hl.1 (Nat.le_of_ble_eq_true rfl) dL_round_210 ⟨Nat.le_of_ble_eq_true rfl, Nat.le_of_ble_eq_true rfl⟩ rfl (fun H locs hL => ?_)
                      refine lv_dup2_11 hx hb dL_round_213 rfl rfl ?_
                      obtain ⟨x9, hx9, hF⟩ := ob hF
                      refine x_iald (k := 0) X hL rfl hx9 dL_round_214 ?_
                      refine lv_aload_n hx hb dL_round_215 rfl (lv_at hl 1 rfl) ?_
                      refine lv_iload hx hb dL_round_216 (lv_at hl 6 rfl) ?_
                      obtain ⟨x10, hx10, hF⟩ := ob hF
                      refine x_iald (k := 1) X hL rfl hx10 dL_round_218 ?_
                      refine lv_ior hx hb dL_round_219 ?_
                      obtain ⟨f11, hf11, hF⟩ := ob hF
                      refine x_iast (k := 0) X hL rfl hf11 dL_round_220 rfl (fun H locs hL => ?_)
                      have hL : LW g (va_A ([(a1, ia g 140 f1)] ++ zcells zC (gW g aC) w) s.heap.size) ([(qa, ia g 140 f11), (a1, ia g 140 f1)] ++ zcells zC (gW g aC) w) s.heap H locs := hL
                      refine lv_aload_n hx hb dL_round_221 rfl (lv_at hl 2 rfl) ?_
                      refine lv_iload hx hb dL_round_222 (lv_at hl 4 rfl) ?_
                      refine lv_dup2_11 hx hb dL_round_224 rfl rfl ?_
                      obtain ⟨x12, hx12, hF⟩ := ob hF
                      refine x_iald (k := 0) X hL rfl hx12 dL_round_225 ?_
                      refine lv_aload_n hx hb dL_round_226 rfl (lv_at hl 1 rfl) ?_
                      refine lv_aload_n hx hb dL_round_227 rfl (lv_at hl 0 rfl) ?_
                      refine lv_iload hx hb dL_round_228 (lv_at hl 8 rfl) ?_
                      obtain ⟨x13, hx13, hF⟩ := ob hF
                      refine y_C (As := [.int sq2.1]) (rest := [.ref a1, .int x12, .int v4_90, .ref qa]) X hZ hA [(qa, ia g 140 f11), (a1, ia g 140 f1)] hL (c_X9_resultOf (l := l) (g := gW g aC) (w := w) (k0 := 0) (v_object := sq2.1) hx13 rfl) tw_5_15 ms_X9_resultOf im_X9_resultOf cn_9 ⟨Nat.le_of_ble_eq_true rfl, Nat.le_of_ble_eq_true rfl⟩ rfl rfl hl.1 (Nat.le_of_ble_eq_true rfl) dL_round_230 ⟨Nat.le_of_ble_eq_true rfl, Nat.le_of_ble_eq_true rfl⟩ rfl (fun H locs hL => ?_)
                      obtain ⟨x14, hx14, hF⟩ := ob hF
                      refine x_iald (k := 1) X hL rfl hx14 dL_round_233 ?_
                      refine lv_ior hx hb dL_round_234 ?_
                      obtain ⟨f15, hf15, hF⟩ := ob hF
                      refine x_iast (k := 0) X hL rfl hf15 dL_round_235 rfl (fun H locs hL => ?_)
                      have hL : LW g (va_A ([(a1, ia g 140 f1)] ++ zcells zC (gW g aC) w) s.heap.size) ([(qa, ia g 140 f15), (a1, ia g 140 f1)] ++ zcells zC (gW g aC) w) s.heap H locs := hL
                      exact J236 f15 _ _ _ hF hL (lv_sub hl [0, 1, 2, 3, 4, 5, 6, 7, 8] rfl)
                    · replace hF := ifn (c7) hF
                      refine lv_goto (tgt := 236) hx hb dL_round_203 (by decide) ?_
                      exact J236 fqa_176 _ _ _ hF hL (lv_sub hl [0, 1, 2, 3, 4, 5, 6, 7, 8] rfl)
              have J139 : ∀ (fqa_139 : Nat → Int32) (H : Heap) (locs : List Loc) (ls : Array Slot), k_L_round_139 v7_90 sq2 f1 v5_90 w v6_90 v4_90 fqa_139 = some bb → LW g (va_A ([(a1, ia g 140 f1)] ++ zcells zC (gW g aC) w) s.heap.size) ([(qa, ia g 140 fqa_139), (a1, ia g 140 f1)] ++ zcells zC (gW g aC) w) s.heap H locs → lv_has ls 9 [(0, .ref (aC 0)), (1, .ref a1), (2, .ref qa), (3, .int sq1.1), (4, .int v4_90), (5, .int v5_90), (6, .int v6_90), (7, .int v7_90), (8, .int sq2.1)] → W p l e { frames := 4, cells := 1, slots := 140, locals := 40 * 4 } s m args below meth c H locs ((0 + 1)) ((0 + 140)) (MQ below (LQc g ([(a1, ia g 140 f1)] ++ zcells zC (gW g aC) w) s.heap.size (fun v nb => ∃ q, v = some (.ref q) ∧ nb = [(q, ia g 140 rz), (a1, ia g 140 f1)] ++ zcells zC (gW g aC) w)) args s 1 140 (va_A ([(a1, ia g 140 f1)] ++ zcells zC (gW g aC) w) s.heap.size)) (F0 m 139 ls []) := by
                intro fqa_139 H locs ls hF hL hl
                unfold k_L_round_139 at hF
                refine lv_iload hx hb dL_round_139 (lv_at hl 7 rfl) ?_
                refine lv_iconst (v := (3 : Int32)) hx hb dL_round_141 (by decide) ?_
                refine lv_icmp_ne (tgt := 176) hx hb dL_round_142 (by decide) (fun c16 => ?_) (fun c16 => ?_)
                · replace hF := ifp (c16) hF
                  exact J176 fqa_139 _ _ _ hF hL (lv_sub hl [0, 1, 2, 3, 4, 5, 6, 7, 8] rfl)
                · replace hF := ifn (fun q => q c16) hF
                  refine lv_aload_n hx hb dL_round_145 rfl (lv_at hl 1 rfl) ?_
                  refine lv_iload hx hb dL_round_146 (lv_at hl 4 rfl) ?_
                  obtain ⟨x17, hx17, hF⟩ := ob hF
                  refine x_iald (k := 1) X hL rfl hx17 dL_round_148 ?_
                  refine lv_iload hx hb dL_round_149 (lv_at hl 8 rfl) ?_
                  refine x_callLS (As := [.int x17, .int sq2.1]) (rest := []) X hZ ([(qa, ia g 140 fqa_139), (a1, ia g 140 f1)] ++ zcells zC (gW g aC) w) [] (by rw [List.append_nil]; exact hL) k_has tw_4_150 ms_L_has tw_4_151 ⟨Nat.le_of_ble_eq_true rfl, Nat.le_of_ble_eq_true rfl⟩ rfl rfl hl.1 (Nat.le_of_ble_eq_true rfl) dL_round_151 ⟨Nat.le_of_ble_eq_true rfl, Nat.le_of_ble_eq_true rfl⟩ (fun v nb H locs hB hL => ?_)
                  obtain ⟨rfl, rfl⟩ := hB
                  rw [List.append_nil] at hL
                  refine lv_if_eq (tgt := 176) hx hb dL_round_154 (by decide) (fun c18 => ?_) (fun c18 => ?_)
                  · replace hF := ifp (c18) hF
                    exact J176 fqa_139 _ _ _ hF hL (lv_sub hl [0, 1, 2, 3, 4, 5, 6, 7, 8] rfl)
                  · replace hF := ifn (c18) hF
                    refine lv_aload_n hx hb dL_round_157 rfl (lv_at hl 2 rfl) ?_
                    refine lv_bipush (v := (100 : Int32)) hx hb dL_round_158 (by decide) ?_
                    refine lv_iconst (v := (4 : Int32)) hx hb dL_round_160 (by decide) ?_
                    refine lv_iload hx hb dL_round_161 (lv_at hl 8 rfl) ?_
                    refine lv_imul hx hb dL_round_163 ?_
                    refine lv_iadd hx hb dL_round_164 ?_
                    refine lv_iload hx hb dL_round_165 (lv_at hl 5 rfl) ?_
                    refine lv_iadd hx hb dL_round_167 ?_
                    refine lv_dup2_11 hx hb dL_round_168 rfl rfl ?_
                    obtain ⟨x19, hx19, hF⟩ := ob hF
                    refine x_iald (k := 0) X hL rfl hx19 dL_round_169 ?_
                    refine lv_aload_n hx hb dL_round_170 rfl (lv_at hl 1 rfl) ?_
                    refine lv_iload hx hb dL_round_171 (lv_at hl 6 rfl) ?_
                    obtain ⟨x20, hx20, hF⟩ := ob hF
                    refine x_iald (k := 1) X hL rfl hx20 dL_round_173 ?_
                    refine lv_ior hx hb dL_round_174 ?_
                    obtain ⟨f21, hf21, hF⟩ := ob hF
                    refine x_iast (k := 0) X hL rfl hf21 dL_round_175 rfl (fun H locs hL => ?_)
                    have hL : LW g (va_A ([(a1, ia g 140 f1)] ++ zcells zC (gW g aC) w) s.heap.size) ([(qa, ia g 140 f21), (a1, ia g 140 f1)] ++ zcells zC (gW g aC) w) s.heap H locs := hL
                    exact J176 f21 _ _ _ hF hL (lv_sub hl [0, 1, 2, 3, 4, 5, 6, 7, 8] rfl)
              refine lv_iload hx hb dL_round_93 (lv_at hl 8 rfl) ?_
              refine lv_aload_n hx hb dL_round_95 rfl (lv_at hl 0 rfl) ?_
              obtain ⟨x22, hx22, hF⟩ := ob hF
              refine y_C (As := []) (rest := [.int sq2.1]) X hZ hA [(qa, ia g 140 sq2.2), (a1, ia g 140 f1)] hL (c_X9_objectCount (l := l) (g := gW g aC) (w := w) (k0 := 0) hx22 rfl) tw_2_237 ms_X9_objectCount im_X9_objectCount cn_9 ⟨Nat.le_of_ble_eq_true rfl, Nat.le_of_ble_eq_true rfl⟩ rfl rfl hl.1 (Nat.le_of_ble_eq_true rfl) dL_round_96 ⟨Nat.le_of_ble_eq_true rfl, Nat.le_of_ble_eq_true rfl⟩ rfl (fun H locs hL => ?_)
              refine lv_icmp_ge (tgt := 242) hx hb dL_round_99 (by decide) (fun c23 => ?_) (fun c23 => ?_)
              · replace hF := ifp (c23) hF
                obtain rfl := se1 hF
                subst hQ
                exact Jq2 _ _ _ hL (lv_sub hl [0, 1, 2, 3] rfl)
              · replace hF := ifn (c23) hF
                refine lv_iload hx hb dL_round_102 (lv_at hl 7 rfl) ?_
                refine lv_iconst (v := (2 : Int32)) hx hb dL_round_104 (by decide) ?_
                refine lv_icmp_ne (tgt := 139) hx hb dL_round_105 (by decide) (fun c24 => ?_) (fun c24 => ?_)
                · replace hF := ifp (c24) hF
                  exact J139 sq2.2 _ _ _ hF hL (lv_sub hl [0, 1, 2, 3, 4, 5, 6, 7, 8] rfl)
                · replace hF := ifn (fun q => q c24) hF
                  refine lv_aload_n hx hb dL_round_108 rfl (lv_at hl 1 rfl) ?_
                  refine lv_iload hx hb dL_round_109 (lv_at hl 5 rfl) ?_
                  obtain ⟨x25, hx25, hF⟩ := ob hF
                  refine x_iald (k := 1) X hL rfl hx25 dL_round_111 ?_
                  refine lv_iload hx hb dL_round_112 (lv_at hl 8 rfl) ?_
                  refine x_callLS (As := [.int x25, .int sq2.1]) (rest := []) X hZ ([(qa, ia g 140 sq2.2), (a1, ia g 140 f1)] ++ zcells zC (gW g aC) w) [] (by rw [List.append_nil]; exact hL) k_has tw_4_150 ms_L_has tw_4_151 ⟨Nat.le_of_ble_eq_true rfl, Nat.le_of_ble_eq_true rfl⟩ rfl rfl hl.1 (Nat.le_of_ble_eq_true rfl) dL_round_114 ⟨Nat.le_of_ble_eq_true rfl, Nat.le_of_ble_eq_true rfl⟩ (fun v nb H locs hB hL => ?_)
                  obtain ⟨rfl, rfl⟩ := hB
                  rw [List.append_nil] at hL
                  refine lv_if_eq (tgt := 139) hx hb dL_round_117 (by decide) (fun c26 => ?_) (fun c26 => ?_)
                  · replace hF := ifp (c26) hF
                    exact J139 sq2.2 _ _ _ hF hL (lv_sub hl [0, 1, 2, 3, 4, 5, 6, 7, 8] rfl)
                  · replace hF := ifn (c26) hF
                    refine lv_aload_n hx hb dL_round_120 rfl (lv_at hl 2 rfl) ?_
                    refine lv_iload hx hb dL_round_121 (lv_at hl 4 rfl) ?_
                    refine lv_dup2_11 hx hb dL_round_123 rfl rfl ?_
                    obtain ⟨x27, hx27, hF⟩ := ob hF
                    refine x_iald (k := 0) X hL rfl hx27 dL_round_124 ?_
                    refine lv_aload_n hx hb dL_round_125 rfl (lv_at hl 1 rfl) ?_
                    refine lv_bipush (v := (100 : Int32)) hx hb dL_round_126 (by decide) ?_
                    refine lv_iconst (v := (4 : Int32)) hx hb dL_round_128 (by decide) ?_
                    refine lv_iload hx hb dL_round_129 (lv_at hl 8 rfl) ?_
                    refine lv_imul hx hb dL_round_131 ?_
                    refine lv_iadd hx hb dL_round_132 ?_
                    refine lv_iload hx hb dL_round_133 (lv_at hl 6 rfl) ?_
                    refine lv_iadd hx hb dL_round_135 ?_
                    obtain ⟨x28, hx28, hF⟩ := ob hF
                    refine x_iald (k := 1) X hL rfl hx28 dL_round_136 ?_
                    refine lv_ior hx hb dL_round_137 ?_
                    obtain ⟨f29, hf29, hF⟩ := ob hF
                    refine x_iast (k := 0) X hL rfl hf29 dL_round_138 rfl (fun H locs hL => ?_)
                    have hL : LW g (va_A ([(a1, ia g 140 f1)] ++ zcells zC (gW g aC) w) s.heap.size) ([(qa, ia g 140 f29), (a1, ia g 140 f1)] ++ zcells zC (gW g aC) w) s.heap H locs := hL
                    exact J139 f29 _ _ _ hF hL (lv_sub hl [0, 1, 2, 3, 4, 5, 6, 7, 8] rfl)
          exact Lq2 _ ((0 : Int32), fqa_90) hrq2 _ _ _ hL (lv_sub hl [1, 2, 3, 4, 5, 6, 7, 8, 0] rfl)
        have J73 : ∀ (v4_73 : Int32) (v5_73 : Int32) (v6_73 : Int32) (v7_73 : Int32) (fqa_73 : Nat → Int32) (H : Heap) (locs : List Loc) (ls : Array Slot), k_L_round_73 w f1 sq1 v4_73 v5_73 v6_73 v7_73 fqa_73 = some bb → LW g (va_A ([(a1, ia g 140 f1)] ++ zcells zC (gW g aC) w) s.heap.size) ([(qa, ia g 140 fqa_73), (a1, ia g 140 f1)] ++ zcells zC (gW g aC) w) s.heap H locs → lv_has ls 9 [(0, .ref (aC 0)), (1, .ref a1), (2, .ref qa), (3, .int sq1.1), (4, .int v4_73), (5, .int v5_73), (6, .int v6_73), (7, .int v7_73)] → W p l e { frames := 4, cells := 1, slots := 140, locals := 40 * 4 } s m args below meth c H locs ((0 + 1)) ((0 + 140)) (MQ below (LQc g ([(a1, ia g 140 f1)] ++ zcells zC (gW g aC) w) s.heap.size (fun v nb => ∃ q, v = some (.ref q) ∧ nb = [(q, ia g 140 rz), (a1, ia g 140 f1)] ++ zcells zC (gW g aC) w)) args s 1 140 (va_A ([(a1, ia g 140 f1)] ++ zcells zC (gW g aC) w) s.heap.size)) (F0 m 73 ls []) := by
          intro v4_73 v5_73 v6_73 v7_73 fqa_73 H locs ls hF hL hl
          unfold k_L_round_73 at hF
          refine lv_iload hx hb dL_round_73 (lv_at hl 7 rfl) ?_
          refine lv_iconst (v := (1 : Int32)) hx hb dL_round_75 (by decide) ?_
          refine lv_icmp_ne (tgt := 90) hx hb dL_round_76 (by decide) (fun c30 => ?_) (fun c30 => ?_)
          · replace hF := ifp (c30) hF
            exact J90 v4_73 v5_73 v6_73 v7_73 fqa_73 _ _ _ hF hL (lv_sub hl [0, 1, 2, 3, 4, 5, 6, 7] rfl)
          · replace hF := ifn (fun q => q c30) hF
            refine lv_aload_n hx hb dL_round_79 rfl (lv_at hl 2 rfl) ?_
            refine lv_iload hx hb dL_round_80 (lv_at hl 4 rfl) ?_
            refine lv_dup2_11 hx hb dL_round_82 rfl rfl ?_
            obtain ⟨x31, hx31, hF⟩ := ob hF
            refine x_iald (k := 0) X hL rfl hx31 dL_round_83 ?_
            refine lv_aload_n hx hb dL_round_84 rfl (lv_at hl 1 rfl) ?_
            refine lv_iload hx hb dL_round_85 (lv_at hl 5 rfl) ?_
            obtain ⟨x32, hx32, hF⟩ := ob hF
            refine x_iald (k := 1) X hL rfl hx32 dL_round_87 ?_
            refine lv_ior hx hb dL_round_88 ?_
            obtain ⟨f33, hf33, hF⟩ := ob hF
            refine x_iast (k := 0) X hL rfl hf33 dL_round_89 rfl (fun H locs hL => ?_)
            have hL : LW g (va_A ([(a1, ia g 140 f1)] ++ zcells zC (gW g aC) w) s.heap.size) ([(qa, ia g 140 f33), (a1, ia g 140 f1)] ++ zcells zC (gW g aC) w) s.heap H locs := hL
            exact J90 v4_73 v5_73 v6_73 v7_73 f33 _ _ _ hF hL (lv_sub hl [0, 1, 2, 3, 4, 5, 6, 7] rfl)
        refine lv_iload_n hx hb dL_round_18 rfl (lv_at hl 3 rfl) ?_
        refine lv_aload_n hx hb dL_round_19 rfl (lv_at hl 0 rfl) ?_
        obtain ⟨x34, hx34, hF⟩ := ob hF
        refine y_C (As := []) (rest := [.int sq1.1]) X hZ hA [(qa, ia g 140 sq1.2), (a1, ia g 140 f1)] hL (c_X9_constraintCount (l := l) (g := gW g aC) (w := w) (k0 := 0) hx34 rfl) tw_3_1 ms_X9_constraintCount im_X9_constraintCount cn_9 ⟨Nat.le_of_ble_eq_true rfl, Nat.le_of_ble_eq_true rfl⟩ rfl rfl hl.1 (Nat.le_of_ble_eq_true rfl) dL_round_20 ⟨Nat.le_of_ble_eq_true rfl, Nat.le_of_ble_eq_true rfl⟩ rfl (fun H locs hL => ?_)
        refine lv_icmp_ge (tgt := 248) hx hb dL_round_23 (by decide) (fun c35 => ?_) (fun c35 => ?_)
        · replace hF := ifp (c35) hF
          obtain rfl := se1 hF
          subst hQ
          exact Jq1 _ _ _ hL (lv_sub hl [2] rfl)
        · replace hF := ifn (c35) hF
          refine lv_aload_n hx hb dL_round_26 rfl (lv_at hl 0 rfl) ?_
          refine lv_iload_n hx hb dL_round_27 rfl (lv_at hl 3 rfl) ?_
          refine lv_iconst (v := (0 : Int32)) hx hb dL_round_28 (by decide) ?_
          obtain ⟨x36, hx36, hF⟩ := ob hF
          refine y_C (As := [.int sq1.1, .int (0 : Int32)]) (rest := []) X hZ hA [(qa, ia g 140 sq1.2), (a1, ia g 140 f1)] hL (c_X9_operand (l := l) (g := gW g aC) (w := w) (k0 := 0) (v_c := sq1.1) (v_p := (0 : Int32)) hx36 rfl) tw_4_168 ms_X9_operand im_X9_operand cn_9 ⟨Nat.le_of_ble_eq_true rfl, Nat.le_of_ble_eq_true rfl⟩ rfl rfl hl.1 (Nat.le_of_ble_eq_true rfl) dL_round_29 ⟨Nat.le_of_ble_eq_true rfl, Nat.le_of_ble_eq_true rfl⟩ rfl (fun H locs hL => ?_)
          refine lv_istore (lv' := [(4, .int x36), (0, .ref (aC 0)), (1, .ref a1), (2, .ref qa), (3, .int sq1.1)]) hx hb dL_round_32 hl (by decide) rfl (fun ls hl => ?_)
          refine lv_aload_n hx hb dL_round_34 rfl (lv_at hl 1 rfl) ?_
          refine lv_iload_n hx hb dL_round_35 rfl (lv_at hl 4 rfl) ?_
          refine lv_iconst (v := (1 : Int32)) hx hb dL_round_36 (by decide) ?_
          obtain ⟨x37, hx37, hF⟩ := ob hF
          refine y_C (As := [.int sq1.1, .int (1 : Int32)]) (rest := []) X hZ hA [(qa, ia g 140 sq1.2), (a1, ia g 140 f1)] hL (c_X9_operand (l := l) (g := gW g aC) (w := w) (k0 := 0) (v_c := sq1.1) (v_p := (1 : Int32)) hx37 rfl) tw_4_168 ms_X9_operand im_X9_operand cn_9 ⟨Nat.le_of_ble_eq_true rfl, Nat.le_of_ble_eq_true rfl⟩ rfl rfl hl.1 (Nat.le_of_ble_eq_true rfl) dL_round_37 ⟨Nat.le_of_ble_eq_true rfl, Nat.le_of_ble_eq_true rfl⟩ rfl (fun H locs hL => ?_)
          refine lv_istore (lv' := [(5, .int x37), (4, .int x36), (0, .ref (aC 0)), (1, .ref a1), (2, .ref qa), (3, .int sq1.1)]) hx hb dL_round_40 hl (by decide) rfl (fun ls hl => ?_)
          refine lv_aload_n hx hb dL_round_42 rfl (lv_at hl 2 rfl) ?_
          refine lv_iload_n hx hb dL_round_43 rfl (lv_at hl 5 rfl) ?_
          refine lv_iconst (v := (2 : Int32)) hx hb dL_round_44 (by decide) ?_
          obtain ⟨x38, hx38, hF⟩ := ob hF
          refine y_C (As := [.int sq1.1, .int (2 : Int32)]) (rest := []) X hZ hA [(qa, ia g 140 sq1.2), (a1, ia g 140 f1)] hL (c_X9_operand (l := l) (g := gW g aC) (w := w) (k0 := 0) (v_c := sq1.1) (v_p := (2 : Int32)) hx38 rfl) tw_4_168 ms_X9_operand im_X9_operand cn_9 ⟨Nat.le_of_ble_eq_true rfl, Nat.le_of_ble_eq_true rfl⟩ rfl rfl hl.1 (Nat.le_of_ble_eq_true rfl) dL_round_45 ⟨Nat.le_of_ble_eq_true rfl, Nat.le_of_ble_eq_true rfl⟩ rfl (fun H locs hL => ?_)
          refine lv_istore (lv' := [(6, .int x38), (5, .int x37), (4, .int x36), (0, .ref (aC 0)), (1, .ref a1), (2, .ref qa), (3, .int sq1.1)]) hx hb dL_round_48 hl (by decide) rfl (fun ls hl => ?_)
          refine lv_aload_n hx hb dL_round_50 rfl (lv_at hl 3 rfl) ?_
          refine lv_iload_n hx hb dL_round_51 rfl (lv_at hl 6 rfl) ?_
          obtain ⟨x39, hx39, hF⟩ := ob hF
          refine y_C (As := [.int sq1.1]) (rest := []) X hZ hA [(qa, ia g 140 sq1.2), (a1, ia g 140 f1)] hL (c_X9_kindOf (l := l) (g := gW g aC) (w := w) (k0 := 0) (v_c := sq1.1) hx39 rfl) tw_5_6 ms_X9_kindOf im_X9_kindOf cn_9 ⟨Nat.le_of_ble_eq_true rfl, Nat.le_of_ble_eq_true rfl⟩ rfl rfl hl.1 (Nat.le_of_ble_eq_true rfl) dL_round_52 ⟨Nat.le_of_ble_eq_true rfl, Nat.le_of_ble_eq_true rfl⟩ rfl (fun H locs hL => ?_)
          refine lv_istore (lv' := [(7, .int x39), (6, .int x38), (5, .int x37), (4, .int x36), (0, .ref (aC 0)), (1, .ref a1), (2, .ref qa), (3, .int sq1.1)]) hx hb dL_round_55 hl (by decide) rfl (fun ls hl => ?_)
          refine lv_iload hx hb dL_round_57 (lv_at hl 0 rfl) ?_
          refine lv_if_ne (tgt := 73) hx hb dL_round_59 (by decide) (fun c40 => ?_) (fun c40 => ?_)
          · replace hF := ifp (c40) hF
            exact J73 x36 x37 x38 x39 sq1.2 _ _ _ hF hL (lv_sub hl [4, 5, 6, 7, 3, 2, 1, 0] rfl)
          · replace hF := ifn (fun q => q c40) hF
            refine lv_aload_n hx hb dL_round_62 rfl (lv_at hl 6 rfl) ?_
            refine lv_iload hx hb dL_round_63 (lv_at hl 3 rfl) ?_
            refine lv_dup2_11 hx hb dL_round_65 rfl rfl ?_
            obtain ⟨x41, hx41, hF⟩ := ob hF
            refine x_iald (k := 0) X hL rfl hx41 dL_round_66 ?_
            refine lv_iconst (v := (1 : Int32)) hx hb dL_round_67 (by decide) ?_
            refine lv_iload hx hb dL_round_68 (lv_at hl 2 rfl) ?_
            refine w_ishl hx hb dL_round_70 ?_
            refine lv_ior hx hb dL_round_71 ?_
            obtain ⟨f42, hf42, hF⟩ := ob hF
            refine x_iast (k := 0) X hL rfl hf42 dL_round_72 rfl (fun H locs hL => ?_)
            have hL : LW g (va_A ([(a1, ia g 140 f1)] ++ zcells zC (gW g aC) w) s.heap.size) ([(qa, ia g 140 f42), (a1, ia g 140 f1)] ++ zcells zC (gW g aC) w) s.heap H locs := hL
            exact J73 x36 x37 x38 x39 f42 _ _ _ hF hL (lv_sub hl [4, 5, 6, 7, 3, 2, 1, 0] rfl)
    exact Lq1 _ ((0 : Int32), (va_cpy f1 (fun _ => 0) 0 0 140)) hrq1 _ _ _ hL (lv_sub hl [2, 3, 1, 0] rfl)
  exact key _ _ hL
