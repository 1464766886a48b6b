-- deps: 26a 29
/-! The walk of load. -/
section LRS
variable {p : Program} {l : Launch} {e : Env} {R : Room} {s : State} {m : MethodId} {args : Array Value} {below : List Frame} {meth : Method} {c : Code} {H : Heap} {locs : List Loc} {cells slots : Nat} {Q : State → Prop}
variable {cc : ByteArray} {nL : Nat} {g : Gh} {pc : Nat} {ls : Array Slot} {rest : List Value} {A : Nat → Prop} {E Z : va_W} {Lx : Nat × (Nat → Int32)} {r y n : Nat} {f : Nat → Int32}
theorem txt_perm (E Z U : va_W) : ((E ++ Z) ++ U).Perm (E ++ (U ++ Z)) := by
  rw [List.append_assoc]
  exact List.Perm.append_left _ List.perm_append_comm
theorem y_fLen (X : AmC p s m args meth c cc nL RL g) (hZ : ZX Lx A g s s.heap) (hL : LW g A (E ++ ([(r, stE y), (y, ba g n f)] ++ Z)) s.heap H locs) (hR : 2 ≤ R.frames ∧ 60 ≤ R.locals) (hsz : ls.size = nL) (hW : (rest.map fun v => v.category).sum ≤ 8) (hf : cells ≤ R.cells ∧ slots ≤ R.slots) (hdg : decode cc pc = .ok (.invokevirtual 15, 3))
    (kk : ∀ (H : Heap) (locs : List Loc), LW g A (E ++ ([(r, stE y), (y, ba g n f)] ++ Z)) s.heap H locs → W p l e R s m args below meth c H locs cells slots Q (F0 m (pc + 3) ls (.int (nI n) :: rest))) : W p l e R s m args below meth c H locs cells slots Q (F0 m pc ls (.ref r :: rest)) := by
  have hL2 := hL.perm (txt_perm E Z [(r, stE y), (y, ba g n f)])
  refine x_callLV (As := []) (rest := rest) X hZ (E ++ Z) [(r, stE y), (y, ba g n f)] hL2 k_fLen tw_3_111 ms_J0_length_8abf5 tw_3_112 tw_3_113 (x_recvL (W1 := E ++ Z) (ws := [(r, stE y), (y, ba g n f)]) X hL2 (j := 0) (ci := 10) rfl rfl) ⟨hR.1, hR.2⟩ rfl rfl hsz hW hdg ⟨hf.1, hf.2⟩ (fun v nb H locs hB hL => ?_)
  obtain ⟨rfl, rfl⟩ := hB
  exact kk H locs (hL.perm (txt_perm E Z [(r, stE y), (y, ba g n f)]).symm)
theorem rdT_s {i x : Int32} (h : rdT f n i = some x) (hn : n ≤ 5000) : ∃ j k, j < n ∧ i = nI j ∧ f j = nI k ∧ k < 128 ∧ x = nI k := by
  unfold rdT at h
  by_cases c : i < 0 ∨ n ≤ i.toNatClampNeg
  · rw [if_pos c] at h; cases h
  · rw [if_neg c] at h
    by_cases d : 0 ≤ f i.toNatClampNeg ∧ f i.toNatClampNeg < 128
    · rw [if_pos d] at h
      obtain rfl := Option.some.inj h
      obtain ⟨j, hj, rfl⟩ := nI_of (x := i) (fun z => c (Or.inl z))
      have e1 : (nI j).toNatClampNeg = j := nI_clamp hj
      rw [e1] at c d ⊢
      obtain ⟨k, hk, ek⟩ := nI_of (x := f j) (fun z => by rw [fa32] at z; have := d.1; rw [fb32] at this; omega)
      rw [ek] at d ⊢
      exact ⟨j, k, Nat.not_le.mp fun z => c (Or.inr z), rfl, ek, (nI_ltI (b := 128) hk (by decide)).mp d.2, rfl⟩
    · rw [if_neg d] at h; cases h
theorem y_fChr (X : AmC p s m args meth c cc nL RL g) (hZ : ZX Lx A g s s.heap) (hL : LW g A (E ++ ([(r, stE y), (y, ba g n f)] ++ Z)) s.heap H locs) (hn : n ≤ 5000) {i x : Int32} (h : rdT f n i = some x) (hR : 4 ≤ R.frames ∧ 141 ≤ R.locals) (hsz : ls.size = nL) (hW : (rest.map fun v => v.category).sum ≤ 8) (hf : cells ≤ R.cells ∧ slots ≤ R.slots) (hdg : decode cc pc = .ok (.invokevirtual 21, 3))
    (kk : ∀ (H : Heap) (locs : List Loc), LW g A (E ++ ([(r, stE y), (y, ba g n f)] ++ Z)) s.heap H locs → W p l e R s m args below meth c H locs cells slots Q (F0 m (pc + 3) ls (.int x :: rest))) : W p l e R s m args below meth c H locs cells slots Q (F0 m pc ls (.int i :: .ref r :: rest)) := by
  obtain ⟨j, k, hj, rfl, hk, hk2, rfl⟩ := rdT_s h hn
  have hL2 := hL.perm (txt_perm E Z [(r, stE y), (y, ba g n f)])
  refine x_callLV (As := [.int (nI j)]) (rest := rest) X hZ (E ++ Z) [(r, stE y), (y, ba g n f)] hL2 (k_fChar hn hj hk hk2) tw_3_121 ms_J0_charAt_5068e tw_3_122 tw_3_123 (x_recvL (W1 := E ++ Z) (ws := [(r, stE y), (y, ba g n f)]) X hL2 (j := 0) (ci := 10) rfl rfl) ⟨hR.1, hR.2⟩ rfl rfl hsz hW hdg ⟨hf.1, hf.2⟩ (fun v nb H locs hB hL => ?_)
  obtain ⟨rfl, rfl⟩ := hB
  exact kk H locs (hL.perm (txt_perm E Z [(r, stE y), (y, ba g n f)]).symm)
end LRS
theorem dL_load_0 : decode cL_load 0 = .ok (.aload_n 1, 1) := by decide +kernel
theorem dL_load_1 : decode cL_load 1 = .ok (.invokevirtual 15, 3) := by decide +kernel
theorem dL_load_4 : decode cL_load 4 = .ok (.istore_n 2, 1) := by decide +kernel
theorem dL_load_5 : decode cL_load 5 = .ok (.iconst 0, 1) := by decide +kernel
theorem dL_load_6 : decode cL_load 6 = .ok (.istore_n 3, 1) := by decide +kernel
theorem dL_load_7 : decode cL_load 7 = .ok (.iload_n 3, 1) := by decide +kernel
theorem dL_load_8 : decode cL_load 8 = .ok (.iload_n 2, 1) := by decide +kernel
theorem dL_load_9 : decode cL_load 9 = .ok (.if_icmp .ge 94, 3) := by decide +kernel
theorem dL_load_12 : decode cL_load 12 = .ok (.iconst 5, 1) := by decide +kernel
theorem dL_load_13 : decode cL_load 13 = .ok (.newarray .int, 2) := by decide +kernel
theorem dL_load_15 : decode cL_load 15 = .ok (.astore 4, 2) := by decide +kernel
theorem dL_load_17 : decode cL_load 17 = .ok (.iconst 0, 1) := by decide +kernel
theorem dL_load_18 : decode cL_load 18 = .ok (.istore 5, 2) := by decide +kernel
theorem dL_load_20 : decode cL_load 20 = .ok (.iload 5, 2) := by decide +kernel
theorem dL_load_22 : decode cL_load 22 = .ok (.bipush 20, 2) := by decide +kernel
theorem dL_load_24 : decode cL_load 24 = .ok (.if_icmp .ge 48, 3) := by decide +kernel
theorem dL_load_27 : decode cL_load 27 = .ok (.aload 4, 2) := by decide +kernel
theorem dL_load_29 : decode cL_load 29 = .ok (.iload 5, 2) := by decide +kernel
theorem dL_load_31 : decode cL_load 31 = .ok (.iconst 4, 1) := by decide +kernel
theorem dL_load_32 : decode cL_load 32 = .ok (.idiv, 1) := by decide +kernel
theorem dL_load_33 : decode cL_load 33 = .ok (.aload 4, 2) := by decide +kernel
theorem dL_load_35 : decode cL_load 35 = .ok (.iload 5, 2) := by decide +kernel
theorem dL_load_37 : decode cL_load 37 = .ok (.iconst 4, 1) := by decide +kernel
theorem dL_load_38 : decode cL_load 38 = .ok (.idiv, 1) := by decide +kernel
theorem dL_load_39 : decode cL_load 39 = .ok (.iaload, 1) := by decide +kernel
theorem dL_load_40 : decode cL_load 40 = .ok (.bipush 8, 2) := by decide +kernel
theorem dL_load_42 : decode cL_load 42 = .ok (.ishl, 1) := by decide +kernel
theorem dL_load_43 : decode cL_load 43 = .ok (.iload_n 3, 1) := by decide +kernel
theorem dL_load_44 : decode cL_load 44 = .ok (.iload 5, 2) := by decide +kernel
theorem dL_load_46 : decode cL_load 46 = .ok (.iadd, 1) := by decide +kernel
theorem dL_load_47 : decode cL_load 47 = .ok (.iload_n 2, 1) := by decide +kernel
theorem dL_load_48 : decode cL_load 48 = .ok (.if_icmp .ge 14, 3) := by decide +kernel
theorem dL_load_51 : decode cL_load 51 = .ok (.aload_n 1, 1) := by decide +kernel
theorem dL_load_52 : decode cL_load 52 = .ok (.iload_n 3, 1) := by decide +kernel
theorem dL_load_53 : decode cL_load 53 = .ok (.iload 5, 2) := by decide +kernel
theorem dL_load_55 : decode cL_load 55 = .ok (.iadd, 1) := by decide +kernel
theorem dL_load_56 : decode cL_load 56 = .ok (.invokevirtual 21, 3) := by decide +kernel
theorem dL_load_59 : decode cL_load 59 = .ok (.goto 5, 3) := by decide +kernel
theorem dL_load_62 : decode cL_load 62 = .ok (.bipush 32, 2) := by decide +kernel
theorem dL_load_64 : decode cL_load 64 = .ok (.ior, 1) := by decide +kernel
theorem dL_load_65 : decode cL_load 65 = .ok (.iastore, 1) := by decide +kernel
theorem dL_load_66 : decode cL_load 66 = .ok (.iinc 5 1, 3) := by decide +kernel
theorem dL_load_69 : decode cL_load 69 = .ok (.goto (-49), 3) := by decide +kernel
theorem dL_load_72 : decode cL_load 72 = .ok (.aload_n 0, 1) := by decide +kernel
theorem dL_load_73 : decode cL_load 73 = .ok (.aload 4, 2) := by decide +kernel
theorem dL_load_75 : decode cL_load 75 = .ok (.iconst 0, 1) := by decide +kernel
theorem dL_load_76 : decode cL_load 76 = .ok (.iaload, 1) := by decide +kernel
theorem dL_load_77 : decode cL_load 77 = .ok (.aload 4, 2) := by decide +kernel
theorem dL_load_79 : decode cL_load 79 = .ok (.iconst 1, 1) := by decide +kernel
theorem dL_load_80 : decode cL_load 80 = .ok (.iaload, 1) := by decide +kernel
theorem dL_load_81 : decode cL_load 81 = .ok (.aload 4, 2) := by decide +kernel
theorem dL_load_83 : decode cL_load 83 = .ok (.iconst 2, 1) := by decide +kernel
theorem dL_load_84 : decode cL_load 84 = .ok (.iaload, 1) := by decide +kernel
theorem dL_load_85 : decode cL_load 85 = .ok (.aload 4, 2) := by decide +kernel
theorem dL_load_87 : decode cL_load 87 = .ok (.iconst 3, 1) := by decide +kernel
theorem dL_load_88 : decode cL_load 88 = .ok (.iaload, 1) := by decide +kernel
theorem dL_load_89 : decode cL_load 89 = .ok (.aload 4, 2) := by decide +kernel
theorem dL_load_91 : decode cL_load 91 = .ok (.iconst 4, 1) := by decide +kernel
theorem dL_load_92 : decode cL_load 92 = .ok (.iaload, 1) := by decide +kernel
theorem dL_load_93 : decode cL_load 93 = .ok (.invokevirtual 25, 3) := by decide +kernel
theorem dL_load_96 : decode cL_load 96 = .ok (.pop, 1) := by decide +kernel
theorem dL_load_97 : decode cL_load 97 = .ok (.iinc 3 20, 3) := by decide +kernel
theorem dL_load_100 : decode cL_load 100 = .ok (.goto (-93), 3) := by decide +kernel
theorem dL_load_103 : decode cL_load 103 = .ok (.aload_n 0, 1) := by decide +kernel
theorem dL_load_104 : decode cL_load 104 = .ok (.iload_n 2, 1) := by decide +kernel
theorem dL_load_105 : decode cL_load 105 = .ok (.invokevirtual 31, 3) := by decide +kernel
theorem dL_load_108 : decode cL_load 108 = .ok (.ireturn, 1) := by decide +kernel
theorem ms_L_load : MSt yL_load cL_load 6 (some .int) 2 := ⟨tw_3_110, tw_1_0, by decide, by decide, by decide +kernel⟩
set_option maxHeartbeats 8000000 in
set_option maxRecDepth 100000 in
theorem c_L_load {l : Launch} {g : Gh} {Lx : Nat × (Nat → Int32)} {aC : Nat → Nat} {w : Wd} {r y n : Nat} {ft : Nat → Int32} {rz : Int32 × Wd} (hF : f_L_load w n ft = some rz) (hn : n ≤ 5000) (hA : ∀ k, 1000 ≤ k → aC k = g.2.2 k) : LMt l Lx g yL_load cL_load 6 (some .int) 8 200 2000 ([(r, stE y), (y, ba g n ft)] ++ zcells zC (gW g aC) w) [.ref (aC 0), .ref r] (fun v nb => v = some (.int rz.1) ∧ nb = [(r, stE y), (y, ba g n ft)] ++ zcells zC (gW g aC) rz.2) := by
  refine lm_start (by decide) (Nat.le_of_ble_eq_true rfl) ?_
  intro p e s m args below meth c ls X hZ hnm hr hl hL
  have hx := X.1
  have hb := X.2.1
  have hown := X.2.2.2.1
  have ht := X.2.2.2.2.1
  have hl : lv_has ls 6 [(0, .ref (aC 0)), (1, .ref r)] := hl
  have hL : LW g (va_A ([(r, stE y), (y, ba g n ft)] ++ zcells zC (gW g aC) w) s.heap.size) ([(r, stE y), (y, ba g n ft)] ++ zcells zC (gW g aC) w) s.heap s.heap [] := hL
  unfold f_L_load at hF
  have key : ∀ (H : Heap) (locs : List Loc), LW g (va_A ([(r, stE y), (y, ba g n ft)] ++ zcells zC (gW g aC) w) s.heap.size) ([(r, stE y), (y, ba g n ft)] ++ zcells zC (gW g aC) w) s.heap H locs → W p l e { frames := 8, cells := 200, slots := 2000, locals := 40 * 8 } s m args below meth c H locs 0 0 (MQ below (LQc g ([(r, stE y), (y, ba g n ft)] ++ zcells zC (gW g aC) w) s.heap.size (fun v nb => v = some (.int rz.1) ∧ nb = [(r, stE y), (y, ba g n ft)] ++ zcells zC (gW g aC) rz.2)) args s 200 2000 (va_A ([(r, stE y), (y, ba g n ft)] ++ zcells zC (gW g aC) w) s.heap.size)) (F0 m 0 ls []) := by
    intro H locs hL
    refine lv_aload_n hx hb dL_load_0 rfl (lv_at hl 1 rfl) ?_
    refine y_fLen (E := []) (Z := zcells zC (gW g aC) w) X hZ hL ⟨Nat.le_of_ble_eq_true rfl, Nat.le_of_ble_eq_true rfl⟩ hl.1 (Nat.le_of_ble_eq_true rfl) ⟨(by show _ ≤ 200; omega), (by show _ ≤ 2000; omega)⟩ dL_load_1 (fun H locs hL => ?_)
    have hL : LW g (va_A ([(r, stE y), (y, ba g n ft)] ++ zcells zC (gW g aC) w) s.heap.size) ([(r, stE y), (y, ba g n ft)] ++ zcells zC (gW g aC) w) s.heap H locs := hL
    refine lv_istore_n (lv' := [(2, .int (nI n)), (0, .ref (aC 0)), (1, .ref r)]) hx hb dL_load_4 rfl hl (by decide) rfl (fun ls hl => ?_)
    refine lv_iconst (v := (0 : Int32)) hx hb dL_load_5 (by decide) ?_
    refine lv_istore_n (lv' := [(3, .int (0 : Int32)), (2, .int (nI n)), (0, .ref (aC 0)), (1, .ref r)]) hx hb dL_load_6 rfl hl (by decide) rfl (fun ls hl => ?_)
    obtain ⟨rq1, hrq1, hF⟩ := ob hF
    have Jq1 : ∀ (H : Heap) (locs : List Loc) (ls : Array Slot), LW g (va_A ([(r, stE y), (y, ba g n ft)] ++ zcells zC (gW g aC) w) s.heap.size) ([(r, stE y), (y, ba g n ft)] ++ zcells zC (gW g aC) rq1) s.heap H locs → lv_has ls 6 [(0, .ref (aC 0)), (2, .int (nI n))] → W p l e { frames := 8, cells := 200, slots := 2000, locals := 40 * 8 } s m args below meth c H locs ((0 + 1 * 100)) ((0 + 5 * 100)) (MQ below (LQc g ([(r, stE y), (y, ba g n ft)] ++ zcells zC (gW g aC) w) s.heap.size (fun v nb => v = some (.int rz.1) ∧ nb = [(r, stE y), (y, ba g n ft)] ++ zcells zC (gW g aC) rz.2)) args s 200 2000 (va_A ([(r, stE y), (y, ba g n ft)] ++ zcells zC (gW g aC) w) s.heap.size)) (F0 m 103 ls []) := by
      intro H locs ls hL hl
      refine lv_aload_n hx hb dL_load_103 rfl (lv_at hl 0 rfl) ?_
      refine lv_iload_n hx hb dL_load_104 rfl (lv_at hl 1 rfl) ?_
      obtain ⟨x16, hx16, hF⟩ := ob hF
      refine y_C (As := [.int (nI n)]) (rest := []) X hZ hA [(r, stE y), (y, ba g n ft)] hL (c_X9_parse (l := l) (g := gW g aC) (w := rq1) (k0 := 0) (v_length := (nI n)) hx16 rfl) tw_2_77 ms_X9_parse im_X9_parse cn_9 ⟨Nat.le_of_ble_eq_true rfl, Nat.le_of_ble_eq_true rfl⟩ rfl rfl hl.1 (Nat.le_of_ble_eq_true rfl) dL_load_105 ⟨(by show _ ≤ 200; omega), (by show _ ≤ 2000; omega)⟩ rfl (fun H locs hL => ?_)
      obtain rfl := se1 hF
      exact x_iret X hL hr ⟨rfl, rfl⟩ (by omega) (by omega) dL_load_108
    have Lq1 : ∀ (kf : Nat) (sq1 : Nat × Int32 × Wd), lp (b_L_load_7 n ft) kf sq1 = some rq1 → ∀ (H : Heap) (locs : List Loc) (ls : Array Slot), LW g (va_A ([(r, stE y), (y, ba g n ft)] ++ zcells zC (gW g aC) w) s.heap.size) ([(r, stE y), (y, ba g n ft)] ++ zcells zC (gW g aC) sq1.2.2) s.heap H locs → lv_has ls 6 [(0, .ref (aC 0)), (1, .ref r), (2, .int (nI n)), (3, .int sq1.2.1)] → W p l e { frames := 8, cells := 200, slots := 2000, locals := 40 * 8 } s m args below meth c H locs ((0 + 1 * sq1.1)) ((0 + 5 * sq1.1)) (MQ below (LQc g ([(r, stE y), (y, ba g n ft)] ++ zcells zC (gW g aC) w) s.heap.size (fun v nb => v = some (.int rz.1) ∧ nb = [(r, stE y), (y, ba g n ft)] ++ zcells zC (gW g aC) rz.2)) args s 200 2000 (va_A ([(r, stE y), (y, ba g n ft)] ++ zcells zC (gW g aC) w) s.heap.size)) (F0 m 7 ls []) := by
      intro kf
      induction kf with
      | zero => intro sq1 hQ; exact lp_0 hQ
      | succ kf ih =>
        intro sq1 hQ H locs ls hL hl
        obtain ⟨bb, hF, hQ⟩ := lp_s hQ
        unfold b_L_load_7 at hF
        have hg : sq1.1 < 100 := Classical.byContradiction fun z => by rw [if_neg z] at hF; cases hF
        rw [if_pos hg] at hF
        refine lv_iload_n hx hb dL_load_7 rfl (lv_at hl 3 rfl) ?_
        refine lv_iload_n hx hb dL_load_8 rfl (lv_at hl 2 rfl) ?_
        refine lv_icmp_ge (tgt := 103) hx hb dL_load_9 (by decide) (fun c2 => ?_) (fun c2 => ?_)
        · replace hF := ifp (c2) hF
          refine W.widen (k := (0 + 1 * 100)) (n := (0 + 5 * 100)) (by omega) (by omega) ?_
          obtain rfl := se1 hF
          subst hQ
          exact Jq1 _ _ _ hL (lv_sub hl [0, 2] rfl)
        · replace hF := ifn (c2) hF
          refine lv_iconst (v := (5 : Int32)) hx hb dL_load_12 (by decide) ?_
          refine x_nint X hL (N := 5) (by decide) (by decide) (by decide) (by show (0 + 1 * sq1.1) + 1 ≤ 200; omega) (by show (0 + 5 * sq1.1) + 5 ≤ 2000; omega) dL_load_13 (fun qv H hL => ?_)
          have hL : LW g (va_A ([(r, stE y), (y, ba g n ft)] ++ zcells zC (gW g aC) w) s.heap.size) ([(qv, ia g 5 (fun _ => 0)), (r, stE y), (y, ba g n ft)] ++ zcells zC (gW g aC) sq1.2.2) s.heap H locs := hL
          refine lv_astore (lv' := [(4, .ref qv), (0, .ref (aC 0)), (1, .ref r), (2, .int (nI n)), (3, .int sq1.2.1)]) hx hb dL_load_15 hl (by decide) rfl (fun ls hl => ?_)
          refine lv_iconst (v := (0 : Int32)) hx hb dL_load_17 (by decide) ?_
          refine lv_istore (lv' := [(5, .int (0 : Int32)), (4, .ref qv), (0, .ref (aC 0)), (1, .ref r), (2, .int (nI n)), (3, .int sq1.2.1)]) hx hb dL_load_18 hl (by decide) rfl (fun ls hl => ?_)
          obtain ⟨rq3, hrq3, hF⟩ := ob hF
          have Jq3 : ∀ (H : Heap) (locs : List Loc) (ls : Array Slot), LW g (va_A ([(r, stE y), (y, ba g n ft)] ++ zcells zC (gW g aC) w) s.heap.size) ([(qv, ia g 5 rq3), (r, stE y), (y, ba g n ft)] ++ zcells zC (gW g aC) sq1.2.2) s.heap H locs → lv_has ls 6 [(0, .ref (aC 0)), (1, .ref r), (2, .int (nI n)), (3, .int sq1.2.1), (4, .ref qv)] → W p l e { frames := 8, cells := 200, slots := 2000, locals := 40 * 8 } s m args below meth c H locs (((0 + 1 * sq1.1) + 1)) (((0 + 5 * sq1.1) + 5)) (MQ below (LQc g ([(r, stE y), (y, ba g n ft)] ++ zcells zC (gW g aC) w) s.heap.size (fun v nb => v = some (.int rz.1) ∧ nb = [(r, stE y), (y, ba g n ft)] ++ zcells zC (gW g aC) rz.2)) args s 200 2000 (va_A ([(r, stE y), (y, ba g n ft)] ++ zcells zC (gW g aC) w) s.heap.size)) (F0 m 72 ls []) := by
            intro H locs ls hL hl
            refine lv_aload_n hx hb dL_load_72 rfl (lv_at hl 0 rfl) ?_
            refine lv_aload hx hb dL_load_73 (lv_at hl 4 rfl) ?_
            refine lv_iconst (v := (0 : Int32)) hx hb dL_load_75 (by decide) ?_
            obtain ⟨x10, hx10, hF⟩ := ob hF
            refine x_iald (k := 0) X hL rfl hx10 dL_load_76 ?_
            refine lv_aload hx hb dL_load_77 (lv_at hl 4 rfl) ?_
            refine lv_iconst (v := (1 : Int32)) hx hb dL_load_79 (by decide) ?_
            obtain ⟨x11, hx11, hF⟩ := ob hF
            refine x_iald (k := 0) X hL rfl hx11 dL_load_80 ?_
            refine lv_aload hx hb dL_load_81 (lv_at hl 4 rfl) ?_
            refine lv_iconst (v := (2 : Int32)) hx hb dL_load_83 (by decide) ?_
            obtain ⟨x12, hx12, hF⟩ := ob hF
            refine x_iald (k := 0) X hL rfl hx12 dL_load_84 ?_
            refine lv_aload hx hb dL_load_85 (lv_at hl 4 rfl) ?_
            refine lv_iconst (v := (3 : Int32)) hx hb dL_load_87 (by decide) ?_
            obtain ⟨x13, hx13, hF⟩ := ob hF
            refine x_iald (k := 0) X hL rfl hx13 dL_load_88 ?_
            refine lv_aload hx hb dL_load_89 (lv_at hl 4 rfl) ?_
            refine lv_iconst (v := (4 : Int32)) hx hb dL_load_91 (by decide) ?_
            obtain ⟨x14, hx14, hF⟩ := ob hF
            refine x_iald (k := 0) X hL rfl hx14 dL_load_92 ?_
            obtain ⟨x15, hx15, hF⟩ := ob hF
            refine y_C (As := [.int x10, .int x11, .int x12, .int x13, .int x14]) (rest := []) X hZ hA [(qv, ia g 5 rq3), (r, stE y), (y, ba g n ft)] hL (c_X9_append (l := l) (g := gW g aC) (w := sq1.2.2) (k0 := 0) (v_a := x10) (v_b := x11) (v_c := x12) (v_d := x13) (v_e := x14) hx15 rfl) tw_3_159 ms_X9_append im_X9_append cn_9 ⟨Nat.le_of_ble_eq_true rfl, Nat.le_of_ble_eq_true rfl⟩ rfl rfl hl.1 (Nat.le_of_ble_eq_true rfl) dL_load_93 ⟨(by show _ ≤ 200; omega), (by show _ ≤ 2000; omega)⟩ rfl (fun H locs hL => ?_)
            refine lv_pop hx hb dL_load_96 rfl ?_
            refine lv_iinc (v := (sq1.2.1 + (20 : Int32))) (lv' := [(3, .int (sq1.2.1 + (20 : Int32))), (0, .ref (aC 0)), (1, .ref r), (2, .int (nI n)), (4, .ref qv)]) hx hb dL_load_97 hl (k := 3) rfl rfl (by decide) rfl (fun ls hl => ?_)
            refine lv_goto (tgt := 7) hx hb dL_load_100 (by decide) ?_
            have hL : LW g (va_A ([(r, stE y), (y, ba g n ft)] ++ zcells zC (gW g aC) w) s.heap.size) ([(r, stE y), (y, ba g n ft)] ++ zcells zC (gW g aC) x15.2) s.heap H locs := hL.subl ((((List.Sublist.refl _).cons_cons _).cons_cons _).cons _)
            refine W.widen (k := (0 + 1 * (sq1.1 + 1))) (n := (0 + 5 * (sq1.1 + 1))) (by omega) (by omega) ?_
            obtain rfl := se1 hF
            exact ih _ hQ _ _ _ hL (lv_sub hl [1, 2, 3, 0] rfl)
          have Lq3 : ∀ (kf : Nat) (sq3 : Int32 × (Nat → Int32)), lp (b_L_load_20 n sq1 ft) kf sq3 = some rq3 → ∀ (H : Heap) (locs : List Loc) (ls : Array Slot), LW g (va_A ([(r, stE y), (y, ba g n ft)] ++ zcells zC (gW g aC) w) s.heap.size) ([(qv, ia g 5 sq3.2), (r, stE y), (y, ba g n ft)] ++ zcells zC (gW g aC) sq1.2.2) s.heap H locs → lv_has ls 6 [(0, .ref (aC 0)), (1, .ref r), (2, .int (nI n)), (3, .int sq1.2.1), (4, .ref qv), (5, .int sq3.1)] → W p l e { frames := 8, cells := 200, slots := 2000, locals := 40 * 8 } s m args below meth c H locs (((0 + 1 * sq1.1) + 1)) (((0 + 5 * sq1.1) + 5)) (MQ below (LQc g ([(r, stE y), (y, ba g n ft)] ++ zcells zC (gW g aC) w) s.heap.size (fun v nb => v = some (.int rz.1) ∧ nb = [(r, stE y), (y, ba g n ft)] ++ zcells zC (gW g aC) rz.2)) args s 200 2000 (va_A ([(r, stE y), (y, ba g n ft)] ++ zcells zC (gW g aC) w) s.heap.size)) (F0 m 20 ls []) := by
            intro kf
            induction kf with
            | zero => intro sq3 hQ; exact lp_0 hQ
            | succ kf ih =>
              intro sq3 hQ H locs ls hL hl
              obtain ⟨bb, hF, hQ⟩ := lp_s hQ
              unfold b_L_load_20 at hF
              refine lv_iload hx hb dL_load_20 (lv_at hl 5 rfl) ?_
              refine lv_bipush (v := (20 : Int32)) hx hb dL_load_22 (by decide) ?_
              refine lv_icmp_ge (tgt := 72) hx hb dL_load_24 (by decide) (fun c4 => ?_) (fun c4 => ?_)
              · replace hF := ifp (c4) hF
                obtain rfl := se1 hF
                subst hQ
                exact Jq3 _ _ _ hL (lv_sub hl [0, 1, 2, 3, 4] rfl)
              · replace hF := ifn (c4) hF
                refine lv_aload hx hb dL_load_27 (lv_at hl 4 rfl) ?_
                refine lv_iload hx hb dL_load_29 (lv_at hl 5 rfl) ?_
                refine lv_iconst (v := (4 : Int32)) hx hb dL_load_31 (by decide) ?_
                refine w_idiv hx hb dL_load_32 (by decide) ?_
                refine lv_aload hx hb dL_load_33 (lv_at hl 4 rfl) ?_
                refine lv_iload hx hb dL_load_35 (lv_at hl 5 rfl) ?_
                refine lv_iconst (v := (4 : Int32)) hx hb dL_load_37 (by decide) ?_
                refine w_idiv hx hb dL_load_38 (by decide) ?_
                obtain ⟨x5, hx5, hF⟩ := ob hF
                refine x_iald (k := 0) X hL rfl hx5 dL_load_39 ?_
                refine lv_bipush (v := (8 : Int32)) hx hb dL_load_40 (by decide) ?_
                refine w_ishl hx hb dL_load_42 ?_
                refine lv_iload_n hx hb dL_load_43 rfl (lv_at hl 3 rfl) ?_
                refine lv_iload hx hb dL_load_44 (lv_at hl 5 rfl) ?_
                refine lv_iadd hx hb dL_load_46 ?_
                refine lv_iload_n hx hb dL_load_47 rfl (lv_at hl 2 rfl) ?_
                refine lv_icmp_ge (tgt := 62) hx hb dL_load_48 (by decide) (fun c6 => ?_) (fun c6 => ?_)
                · replace hF := ifp (c6) hF
                  refine lv_bipush (v := (32 : Int32)) hx hb dL_load_62 (by decide) ?_
                  refine lv_ior hx hb dL_load_64 ?_
                  obtain ⟨f7, hf7, hF⟩ := ob hF
                  refine x_iast (k := 0) X hL rfl hf7 dL_load_65 rfl (fun H locs hL => ?_)
                  have hL : LW g (va_A ([(r, stE y), (y, ba g n ft)] ++ zcells zC (gW g aC) w) s.heap.size) ([(qv, ia g 5 f7), (r, stE y), (y, ba g n ft)] ++ zcells zC (gW g aC) sq1.2.2) s.heap H locs := hL
                  refine lv_iinc (v := (sq3.1 + (1 : Int32))) (lv' := [(5, .int (sq3.1 + (1 : Int32))), (0, .ref (aC 0)), (1, .ref r), (2, .int (nI n)), (3, .int sq1.2.1), (4, .ref qv)]) hx hb dL_load_66 hl (k := 5) rfl rfl (by decide) rfl (fun ls hl => ?_)
                  refine lv_goto (tgt := 20) hx hb dL_load_69 (by decide) ?_
                  obtain rfl := se1 hF
                  exact ih _ hQ _ _ _ hL (lv_sub hl [1, 2, 3, 4, 5, 0] rfl)
                · replace hF := ifn (c6) hF
                  refine lv_aload_n hx hb dL_load_51 rfl (lv_at hl 1 rfl) ?_
                  refine lv_iload_n hx hb dL_load_52 rfl (lv_at hl 3 rfl) ?_
                  refine lv_iload hx hb dL_load_53 (lv_at hl 5 rfl) ?_
                  refine lv_iadd hx hb dL_load_55 ?_
                  obtain ⟨x8, hx8, hF⟩ := ob hF
                  refine y_fChr (E := [(qv, ia g 5 sq3.2)]) (Z := zcells zC (gW g aC) sq1.2.2) (rest := [.int (jshl x5 (8 : Int32)), .int (jdiv sq3.1 (4 : Int32)), .ref qv]) X hZ hL hn hx8 ⟨Nat.le_of_ble_eq_true rfl, Nat.le_of_ble_eq_true rfl⟩ hl.1 (Nat.le_of_ble_eq_true rfl) ⟨(by show _ ≤ 200; omega), (by show _ ≤ 2000; omega)⟩ dL_load_56 (fun H locs hL => ?_)
                  have hL : LW g (va_A ([(r, stE y), (y, ba g n ft)] ++ zcells zC (gW g aC) w) s.heap.size) ([(qv, ia g 5 sq3.2), (r, stE y), (y, ba g n ft)] ++ zcells zC (gW g aC) sq1.2.2) s.heap H locs := hL
                  refine lv_goto (tgt := 64) hx hb dL_load_59 (by decide) ?_
                  refine lv_ior hx hb dL_load_64 ?_
                  obtain ⟨f9, hf9, hF⟩ := ob hF
                  refine x_iast (k := 0) X hL rfl hf9 dL_load_65 rfl (fun H locs hL => ?_)
                  have hL : LW g (va_A ([(r, stE y), (y, ba g n ft)] ++ zcells zC (gW g aC) w) s.heap.size) ([(qv, ia g 5 f9), (r, stE y), (y, ba g n ft)] ++ zcells zC (gW g aC) sq1.2.2) s.heap H locs := hL
                  refine lv_iinc (v := (sq3.1 + (1 : Int32))) (lv' := [(5, .int (sq3.1 + (1 : Int32))), (0, .ref (aC 0)), (1, .ref r), (2, .int (nI n)), (3, .int sq1.2.1), (4, .ref qv)]) hx hb dL_load_66 hl (k := 5) rfl rfl (by decide) rfl (fun ls hl => ?_)
                  refine lv_goto (tgt := 20) hx hb dL_load_69 (by decide) ?_
                  obtain rfl := se1 hF
                  exact ih _ hQ _ _ _ hL (lv_sub hl [1, 2, 3, 4, 5, 0] rfl)
          exact Lq3 _ ((0 : Int32), (fun _ => 0)) hrq3 _ _ _ hL (lv_sub hl [2, 3, 4, 5, 1, 0] rfl)
    refine W.widen (k := (0 + 1 * 0)) (n := (0 + 5 * 0)) (by omega) (by omega) ?_
    exact Lq1 _ (0, (0 : Int32), w) hrq1 _ _ _ hL (lv_sub hl [2, 3, 1, 0] rfl)
  exact key _ _ hL
