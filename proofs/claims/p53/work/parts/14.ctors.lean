/-! The constructors of the smaller classes. -/
def adL (l : List Nat) : Nat → Nat := fun k => l.getD k 0
theorem dX0_init_0 : decode cX0_init 0 = .ok (.aload_n 0, 1) := by decide +kernel
theorem dX0_init_1 : decode cX0_init 1 = .ok (.invokespecial 3, 3) := by decide +kernel
theorem dX0_init_4 : decode cX0_init 4 = .ok (.aload_n 0, 1) := by decide +kernel
theorem dX0_init_5 : decode cX0_init 5 = .ok (.bipush 30, 2) := by decide +kernel
theorem dX0_init_7 : decode cX0_init 7 = .ok (.newarray .int, 2) := by decide +kernel
theorem dX0_init_9 : decode cX0_init 9 = .ok (.putfield 9, 3) := by decide +kernel
theorem dX0_init_12 : decode cX0_init 12 = .ok (.aload_n 0, 1) := by decide +kernel
theorem dX0_init_13 : decode cX0_init 13 = .ok (.bipush 30, 2) := by decide +kernel
theorem dX0_init_15 : decode cX0_init 15 = .ok (.newarray .int, 2) := by decide +kernel
theorem dX0_init_17 : decode cX0_init 17 = .ok (.putfield 15, 3) := by decide +kernel
theorem dX0_init_20 : decode cX0_init 20 = .ok (.aload_n 0, 1) := by decide +kernel
theorem dX0_init_21 : decode cX0_init 21 = .ok (.bipush 30, 2) := by decide +kernel
theorem dX0_init_23 : decode cX0_init 23 = .ok (.newarray .int, 2) := by decide +kernel
theorem dX0_init_25 : decode cX0_init 25 = .ok (.putfield 18, 3) := by decide +kernel
theorem dX0_init_28 : decode cX0_init 28 = .ok (.aload_n 0, 1) := by decide +kernel
theorem dX0_init_29 : decode cX0_init 29 = .ok (.bipush 30, 2) := by decide +kernel
theorem dX0_init_31 : decode cX0_init 31 = .ok (.newarray .int, 2) := by decide +kernel
theorem dX0_init_33 : decode cX0_init 33 = .ok (.putfield 21, 3) := by decide +kernel
theorem dX0_init_36 : decode cX0_init 36 = .ok (.aload_n 0, 1) := by decide +kernel
theorem dX0_init_37 : decode cX0_init 37 = .ok (.iconst 0, 1) := by decide +kernel
theorem dX0_init_38 : decode cX0_init 38 = .ok (.putfield 24, 3) := by decide +kernel
theorem dX0_init_41 : decode cX0_init 41 = .ok (.aload_n 0, 1) := by decide +kernel
theorem dX0_init_42 : decode cX0_init 42 = .ok (.iconst 0, 1) := by decide +kernel
theorem dX0_init_43 : decode cX0_init 43 = .ok (.putfield 28, 3) := by decide +kernel
theorem dX0_init_46 : decode cX0_init 46 = .ok (.return_, 1) := by decide +kernel
def Dv0 : List Value := [.null, .null, .null, .null, .int 0, .int 0]
theorem Dv0_ok : ∀ j, j < 6 → defaultValue (tyX0 j) = vp_V Dv0 j := by
  intro j hj
  match j, hj with
  | 0, _ => rfl
  | 1, _ => rfl
  | 2, _ => rfl
  | 3, _ => rfl
  | 4, _ => rfl
  | 5, _ => rfl
  | j + 6, hj => exact absurd hj (by omega)
def L0 (g : Gh) (a : Nat → Nat) : va_W := [(a 0, .inr (0, [.ref (a 1), .ref (a 2), .ref (a 3), .ref (a 4), .int 0, .int 0])), (a 1, za g 0 30), (a 2, za g 0 30), (a 3, za g 0 30), (a 4, za g 0 30)]
set_option maxHeartbeats 4000000 in
set_option maxRecDepth 100000 in
theorem k_X0 {l : Launch} {g : Gh} : CtM l g yX0_init cX0_init 1 1 4 120 0 Dv0 [] (fun q0 r => ∃ a : Nat → Nat, a 0 = q0 ∧ r = L0 g a) := by
  refine ct_start (by decide) rfl (Nat.le_of_ble_eq_true rfl) ?_
  intro q0 p e s m args below meth c ls A X hinit hr hl hL hA
  have hx := X.1
  have hb := X.2.1
  have hml := X.2.2.1
  have hown := X.2.2.2.1
  have ht := X.2.2.2.2.1
  have hl : lv_has ls 1 [(0, .ref q0)] := hl
  have hL : LW g A [(q0, .inr (0, [.null, .null, .null, .null, .int 0, .int 0]))] s.heap s.heap [] := hL
  refine lv_aload_n hx hb dX0_init_0 rfl (lv_at hl 0 rfl) ?_
  refine x_obj X tw_1_106 tw_1_34 tw_1_35 hl.1 (Nat.le_of_ble_eq_true rfl) (Nat.le_of_ble_eq_true rfl) dX0_init_1 ?_
  refine lv_aload_n hx hb dX0_init_4 rfl (lv_at hl 0 rfl) ?_
  refine lv_bipush (v := (30 : Int32)) hx hb dX0_init_5 (by decide) ?_
  refine x_newI X hL (N := 30) (by decide) (by decide) (by decide) (Nat.le_of_ble_eq_true rfl) (Nat.le_of_ble_eq_true rfl) dX0_init_7 (fun q1 H hL => ?_)
  have hL : LW g A [(q0, .inr (0, [.null, .null, .null, .null, .int 0, .int 0])), (q1, za g 0 30)] s.heap H _ := hL
  refine x_putF (ci := 0) (k := 0) (j := 0) (ws2 := [(q0, .inr (0, [.ref q1, .null, .null, .null, .int 0, .int 0])), (q1, za g 0 30)]) X hL hinit rfl rfl cs_0 (by decide) tw_1_107 rfl rfl rfl (tyX0_ok 0 (by decide)) (ref_fit rfl).1 (ref_fit rfl).2 (Nat.le_of_ble_eq_true rfl) rfl dX0_init_9 (fun H locs hL => ?_)
  refine lv_aload_n hx hb dX0_init_12 rfl (lv_at hl 0 rfl) ?_
  refine lv_bipush (v := (30 : Int32)) hx hb dX0_init_13 (by decide) ?_
  refine x_newI X hL (N := 30) (by decide) (by decide) (by decide) (Nat.le_of_ble_eq_true rfl) (Nat.le_of_ble_eq_true rfl) dX0_init_15 (fun q2 H hL => ?_)
  have hL : LW g A [(q0, .inr (0, [.ref q1, .null, .null, .null, .int 0, .int 0])), (q1, za g 0 30), (q2, za g 0 30)] s.heap H _ := hL
  refine x_putF (ci := 0) (k := 1) (j := 0) (ws2 := [(q0, .inr (0, [.ref q1, .ref q2, .null, .null, .int 0, .int 0])), (q1, za g 0 30), (q2, za g 0 30)]) X hL hinit rfl rfl cs_0 (by decide) tw_1_111 rfl rfl rfl (tyX0_ok 1 (by decide)) (ref_fit rfl).1 (ref_fit rfl).2 (Nat.le_of_ble_eq_true rfl) rfl dX0_init_17 (fun H locs hL => ?_)
  refine lv_aload_n hx hb dX0_init_20 rfl (lv_at hl 0 rfl) ?_
  refine lv_bipush (v := (30 : Int32)) hx hb dX0_init_21 (by decide) ?_
  refine x_newI X hL (N := 30) (by decide) (by decide) (by decide) (Nat.le_of_ble_eq_true rfl) (Nat.le_of_ble_eq_true rfl) dX0_init_23 (fun q3 H hL => ?_)
  have hL : LW g A [(q0, .inr (0, [.ref q1, .ref q2, .null, .null, .int 0, .int 0])), (q1, za g 0 30), (q2, za g 0 30), (q3, za g 0 30)] s.heap H _ := hL
  refine x_putF (ci := 0) (k := 2) (j := 0) (ws2 := [(q0, .inr (0, [.ref q1, .ref q2, .ref q3, .null, .int 0, .int 0])), (q1, za g 0 30), (q2, za g 0 30), (q3, za g 0 30)]) X hL hinit rfl rfl cs_0 (by decide) tw_1_114 rfl rfl rfl (tyX0_ok 2 (by decide)) (ref_fit rfl).1 (ref_fit rfl).2 (Nat.le_of_ble_eq_true rfl) rfl dX0_init_25 (fun H locs hL => ?_)
  refine lv_aload_n hx hb dX0_init_28 rfl (lv_at hl 0 rfl) ?_
  refine lv_bipush (v := (30 : Int32)) hx hb dX0_init_29 (by decide) ?_
  refine x_newI X hL (N := 30) (by decide) (by decide) (by decide) (Nat.le_of_ble_eq_true rfl) (Nat.le_of_ble_eq_true rfl) dX0_init_31 (fun q4 H hL => ?_)
  have hL : LW g A [(q0, .inr (0, [.ref q1, .ref q2, .ref q3, .null, .int 0, .int 0])), (q1, za g 0 30), (q2, za g 0 30), (q3, za g 0 30), (q4, za g 0 30)] s.heap H _ := hL
  refine x_putF (ci := 0) (k := 3) (j := 0) (ws2 := [(q0, .inr (0, [.ref q1, .ref q2, .ref q3, .ref q4, .int 0, .int 0])), (q1, za g 0 30), (q2, za g 0 30), (q3, za g 0 30), (q4, za g 0 30)]) X hL hinit rfl rfl cs_0 (by decide) tw_1_117 rfl rfl rfl (tyX0_ok 3 (by decide)) (ref_fit rfl).1 (ref_fit rfl).2 (Nat.le_of_ble_eq_true rfl) rfl dX0_init_33 (fun H locs hL => ?_)
  refine lv_aload_n hx hb dX0_init_36 rfl (lv_at hl 0 rfl) ?_
  refine lv_iconst (v := (0 : Int32)) hx hb dX0_init_37 (by decide) ?_
  refine x_put (ci := 0) (k := 4) (j := 0) (ws2 := [(q0, .inr (0, [.ref q1, .ref q2, .ref q3, .ref q4, .int 0, .int 0])), (q1, za g 0 30), (q2, za g 0 30), (q3, za g 0 30), (q4, za g 0 30)]) X hL rfl rfl cs_0 (by decide) tw_1_119 rfl rfl (tyX0_ok 4 (by decide)) rfl rfl (Nat.le_of_ble_eq_true rfl) rfl dX0_init_38 (fun H locs hL => ?_)
  refine lv_aload_n hx hb dX0_init_41 rfl (lv_at hl 0 rfl) ?_
  refine lv_iconst (v := (0 : Int32)) hx hb dX0_init_42 (by decide) ?_
  refine x_put (ci := 0) (k := 5) (j := 0) (ws2 := [(q0, .inr (0, [.ref q1, .ref q2, .ref q3, .ref q4, .int 0, .int 0])), (q1, za g 0 30), (q2, za g 0 30), (q3, za g 0 30), (q4, za g 0 30)]) X hL rfl rfl cs_0 (by decide) tw_1_123 rfl rfl (tyX0_ok 5 (by decide)) rfl rfl (Nat.le_of_ble_eq_true rfl) rfl dX0_init_43 (fun H locs hL => ?_)
  exact x_end X hL hA hr ⟨adL [q0, q1, q2, q3, q4], rfl, rfl⟩ (Nat.le_of_ble_eq_true rfl) (Nat.le_of_ble_eq_true rfl) dX0_init_46
theorem dX1_init_0 : decode cX1_init 0 = .ok (.aload_n 0, 1) := by decide +kernel
theorem dX1_init_1 : decode cX1_init 1 = .ok (.invokespecial 3, 3) := by decide +kernel
theorem dX1_init_4 : decode cX1_init 4 = .ok (.aload_n 0, 1) := by decide +kernel
theorem dX1_init_5 : decode cX1_init 5 = .ok (.bipush 56, 2) := by decide +kernel
theorem dX1_init_7 : decode cX1_init 7 = .ok (.newarray .long, 2) := by decide +kernel
theorem dX1_init_9 : decode cX1_init 9 = .ok (.putfield 9, 3) := by decide +kernel
theorem dX1_init_12 : decode cX1_init 12 = .ok (.aload_n 0, 1) := by decide +kernel
theorem dX1_init_13 : decode cX1_init 13 = .ok (.bipush 56, 2) := by decide +kernel
theorem dX1_init_15 : decode cX1_init 15 = .ok (.newarray .long, 2) := by decide +kernel
theorem dX1_init_17 : decode cX1_init 17 = .ok (.putfield 15, 3) := by decide +kernel
theorem dX1_init_20 : decode cX1_init 20 = .ok (.aload_n 0, 1) := by decide +kernel
theorem dX1_init_21 : decode cX1_init 21 = .ok (.bipush 56, 2) := by decide +kernel
theorem dX1_init_23 : decode cX1_init 23 = .ok (.newarray .long, 2) := by decide +kernel
theorem dX1_init_25 : decode cX1_init 25 = .ok (.putfield 18, 3) := by decide +kernel
theorem dX1_init_28 : decode cX1_init 28 = .ok (.aload_n 0, 1) := by decide +kernel
theorem dX1_init_29 : decode cX1_init 29 = .ok (.lconst 0, 1) := by decide +kernel
theorem dX1_init_30 : decode cX1_init 30 = .ok (.putfield 21, 3) := by decide +kernel
theorem dX1_init_33 : decode cX1_init 33 = .ok (.return_, 1) := by decide +kernel
def Dv1 : List Value := [.null, .null, .null, .long 0]
theorem Dv1_ok : ∀ j, j < 4 → defaultValue (tyX1 j) = vp_V Dv1 j := by
  intro j hj
  match j, hj with
  | 0, _ => rfl
  | 1, _ => rfl
  | 2, _ => rfl
  | 3, _ => rfl
  | j + 4, hj => exact absurd hj (by omega)
def L1 (g : Gh) (a : Nat → Nat) : va_W := [(a 0, .inr (1, [.ref (a 1), .ref (a 2), .ref (a 3), .long 0])), (a 1, za g 1 56), (a 2, za g 1 56), (a 3, za g 1 56)]
set_option maxHeartbeats 4000000 in
set_option maxRecDepth 100000 in
theorem k_X1 {l : Launch} {g : Gh} : CtM l g yX1_init cX1_init 1 1 3 168 1 Dv1 [] (fun q0 r => ∃ a : Nat → Nat, a 0 = q0 ∧ r = L1 g a) := by
  refine ct_start (by decide) rfl (Nat.le_of_ble_eq_true rfl) ?_
  intro q0 p e s m args below meth c ls A X hinit hr hl hL hA
  have hx := X.1
  have hb := X.2.1
  have hml := X.2.2.1
  have hown := X.2.2.2.1
  have ht := X.2.2.2.2.1
  have hl : lv_has ls 1 [(0, .ref q0)] := hl
  have hL : LW g A [(q0, .inr (1, [.null, .null, .null, .long 0]))] s.heap s.heap [] := hL
  refine lv_aload_n hx hb dX1_init_0 rfl (lv_at hl 0 rfl) ?_
  refine x_obj X tw_2_1 tw_1_34 tw_1_35 hl.1 (Nat.le_of_ble_eq_true rfl) (Nat.le_of_ble_eq_true rfl) dX1_init_1 ?_
  refine lv_aload_n hx hb dX1_init_4 rfl (lv_at hl 0 rfl) ?_
  refine lv_bipush (v := (56 : Int32)) hx hb dX1_init_5 (by decide) ?_
  refine x_newJ X hL (N := 56) (by decide) (by decide) (by decide) (Nat.le_of_ble_eq_true rfl) (Nat.le_of_ble_eq_true rfl) dX1_init_7 (fun q1 H hL => ?_)
  have hL : LW g A [(q0, .inr (1, [.null, .null, .null, .long 0])), (q1, za g 1 56)] s.heap H _ := hL
  refine x_putF (ci := 1) (k := 0) (j := 0) (ws2 := [(q0, .inr (1, [.ref q1, .null, .null, .long 0])), (q1, za g 1 56)]) X hL hinit rfl rfl cs_1 (by decide) tw_2_2 rfl rfl rfl (tyX1_ok 0 (by decide)) (ref_fit rfl).1 (ref_fit rfl).2 (Nat.le_of_ble_eq_true rfl) rfl dX1_init_9 (fun H locs hL => ?_)
  refine lv_aload_n hx hb dX1_init_12 rfl (lv_at hl 0 rfl) ?_
  refine lv_bipush (v := (56 : Int32)) hx hb dX1_init_13 (by decide) ?_
  refine x_newJ X hL (N := 56) (by decide) (by decide) (by decide) (Nat.le_of_ble_eq_true rfl) (Nat.le_of_ble_eq_true rfl) dX1_init_15 (fun q2 H hL => ?_)
  have hL : LW g A [(q0, .inr (1, [.ref q1, .null, .null, .long 0])), (q1, za g 1 56), (q2, za g 1 56)] s.heap H _ := hL
  refine x_putF (ci := 1) (k := 1) (j := 0) (ws2 := [(q0, .inr (1, [.ref q1, .ref q2, .null, .long 0])), (q1, za g 1 56), (q2, za g 1 56)]) X hL hinit rfl rfl cs_1 (by decide) tw_2_4 rfl rfl rfl (tyX1_ok 1 (by decide)) (ref_fit rfl).1 (ref_fit rfl).2 (Nat.le_of_ble_eq_true rfl) rfl dX1_init_17 (fun H locs hL => ?_)
  refine lv_aload_n hx hb dX1_init_20 rfl (lv_at hl 0 rfl) ?_
  refine lv_bipush (v := (56 : Int32)) hx hb dX1_init_21 (by decide) ?_
  refine x_newJ X hL (N := 56) (by decide) (by decide) (by decide) (Nat.le_of_ble_eq_true rfl) (Nat.le_of_ble_eq_true rfl) dX1_init_23 (fun q3 H hL => ?_)
  have hL : LW g A [(q0, .inr (1, [.ref q1, .ref q2, .null, .long 0])), (q1, za g 1 56), (q2, za g 1 56), (q3, za g 1 56)] s.heap H _ := hL
  refine x_putF (ci := 1) (k := 2) (j := 0) (ws2 := [(q0, .inr (1, [.ref q1, .ref q2, .ref q3, .long 0])), (q1, za g 1 56), (q2, za g 1 56), (q3, za g 1 56)]) X hL hinit rfl rfl cs_1 (by decide) tw_2_5 rfl rfl rfl (tyX1_ok 2 (by decide)) (ref_fit rfl).1 (ref_fit rfl).2 (Nat.le_of_ble_eq_true rfl) rfl dX1_init_25 (fun H locs hL => ?_)
  refine lv_aload_n hx hb dX1_init_28 rfl (lv_at hl 0 rfl) ?_
  refine lv_lconst (v := 0) hx hb dX1_init_29 (by decide) ?_
  refine x_put (ci := 1) (k := 3) (j := 0) (ws2 := [(q0, .inr (1, [.ref q1, .ref q2, .ref q3, .long 0])), (q1, za g 1 56), (q2, za g 1 56), (q3, za g 1 56)]) X hL rfl rfl cs_1 (by decide) tw_2_7 rfl rfl (tyX1_ok 3 (by decide)) rfl rfl (Nat.le_of_ble_eq_true rfl) rfl dX1_init_30 (fun H locs hL => ?_)
  exact x_end X hL hA hr ⟨adL [q0, q1, q2, q3], rfl, rfl⟩ (Nat.le_of_ble_eq_true rfl) (Nat.le_of_ble_eq_true rfl) dX1_init_33
theorem dX2_init_0 : decode cX2_init 0 = .ok (.aload_n 0, 1) := by decide +kernel
theorem dX2_init_1 : decode cX2_init 1 = .ok (.invokespecial 3, 3) := by decide +kernel
theorem dX2_init_4 : decode cX2_init 4 = .ok (.aload_n 0, 1) := by decide +kernel
theorem dX2_init_5 : decode cX2_init 5 = .ok (.sipush 1232, 3) := by decide +kernel
theorem dX2_init_8 : decode cX2_init 8 = .ok (.newarray .byte, 2) := by decide +kernel
theorem dX2_init_10 : decode cX2_init 10 = .ok (.putfield 9, 3) := by decide +kernel
theorem dX2_init_13 : decode cX2_init 13 = .ok (.aload_n 0, 1) := by decide +kernel
theorem dX2_init_14 : decode cX2_init 14 = .ok (.iconst 0, 1) := by decide +kernel
theorem dX2_init_15 : decode cX2_init 15 = .ok (.putfield 15, 3) := by decide +kernel
theorem dX2_init_18 : decode cX2_init 18 = .ok (.return_, 1) := by decide +kernel
def Dv2 : List Value := [.null, .int 0]
theorem Dv2_ok : ∀ j, j < 2 → defaultValue (tyX2 j) = vp_V Dv2 j := by
  intro j hj
  match j, hj with
  | 0, _ => rfl
  | 1, _ => rfl
  | j + 2, hj => exact absurd hj (by omega)
def L2 (g : Gh) (a : Nat → Nat) : va_W := [(a 0, .inr (2, [.ref (a 1), .int 0])), (a 1, za g 2 1232)]
set_option maxHeartbeats 4000000 in
set_option maxRecDepth 100000 in
theorem k_X2 {l : Launch} {g : Gh} : CtM l g yX2_init cX2_init 1 1 1 1232 2 Dv2 [] (fun q0 r => ∃ a : Nat → Nat, a 0 = q0 ∧ r = L2 g a) := by
  refine ct_start (by decide) rfl (Nat.le_of_ble_eq_true rfl) ?_
  intro q0 p e s m args below meth c ls A X hinit hr hl hL hA
  have hx := X.1
  have hb := X.2.1
  have hml := X.2.2.1
  have hown := X.2.2.2.1
  have ht := X.2.2.2.2.1
  have hl : lv_has ls 1 [(0, .ref q0)] := hl
  have hL : LW g A [(q0, .inr (2, [.null, .int 0]))] s.heap s.heap [] := hL
  refine lv_aload_n hx hb dX2_init_0 rfl (lv_at hl 0 rfl) ?_
  refine x_obj X tw_2_22 tw_1_34 tw_1_35 hl.1 (Nat.le_of_ble_eq_true rfl) (Nat.le_of_ble_eq_true rfl) dX2_init_1 ?_
  refine lv_aload_n hx hb dX2_init_4 rfl (lv_at hl 0 rfl) ?_
  refine lv_sipush (v := (1232 : Int32)) hx hb dX2_init_5 (by decide) ?_
  refine x_newB X hL (N := 1232) (by decide) (by decide) (by decide) (Nat.le_of_ble_eq_true rfl) (Nat.le_of_ble_eq_true rfl) dX2_init_8 (fun q1 H hL => ?_)
  have hL : LW g A [(q0, .inr (2, [.null, .int 0])), (q1, za g 2 1232)] s.heap H _ := hL
  refine x_putF (ci := 2) (k := 0) (j := 0) (ws2 := [(q0, .inr (2, [.ref q1, .int 0])), (q1, za g 2 1232)]) X hL hinit rfl rfl cs_2 (by decide) tw_2_23 rfl rfl rfl (tyX2_ok 0 (by decide)) (ref_fit rfl).1 (ref_fit rfl).2 (Nat.le_of_ble_eq_true rfl) rfl dX2_init_10 (fun H locs hL => ?_)
  refine lv_aload_n hx hb dX2_init_13 rfl (lv_at hl 0 rfl) ?_
  refine lv_iconst (v := (0 : Int32)) hx hb dX2_init_14 (by decide) ?_
  refine x_put (ci := 2) (k := 1) (j := 0) (ws2 := [(q0, .inr (2, [.ref q1, .int 0])), (q1, za g 2 1232)]) X hL rfl rfl cs_2 (by decide) tw_2_24 rfl rfl (tyX2_ok 1 (by decide)) rfl rfl (Nat.le_of_ble_eq_true rfl) rfl dX2_init_15 (fun H locs hL => ?_)
  exact x_end X hL hA hr ⟨adL [q0, q1], rfl, rfl⟩ (Nat.le_of_ble_eq_true rfl) (Nat.le_of_ble_eq_true rfl) dX2_init_18
theorem dX3_init_0 : decode cX3_init 0 = .ok (.aload_n 0, 1) := by decide +kernel
theorem dX3_init_1 : decode cX3_init 1 = .ok (.invokespecial 3, 3) := by decide +kernel
theorem dX3_init_4 : decode cX3_init 4 = .ok (.aload_n 0, 1) := by decide +kernel
theorem dX3_init_5 : decode cX3_init 5 = .ok (.bipush 12, 2) := by decide +kernel
theorem dX3_init_7 : decode cX3_init 7 = .ok (.newarray .int, 2) := by decide +kernel
theorem dX3_init_9 : decode cX3_init 9 = .ok (.putfield 9, 3) := by decide +kernel
theorem dX3_init_12 : decode cX3_init 12 = .ok (.aload_n 0, 1) := by decide +kernel
theorem dX3_init_13 : decode cX3_init 13 = .ok (.iconst 0, 1) := by decide +kernel
theorem dX3_init_14 : decode cX3_init 14 = .ok (.putfield 15, 3) := by decide +kernel
theorem dX3_init_17 : decode cX3_init 17 = .ok (.aload_n 0, 1) := by decide +kernel
theorem dX3_init_18 : decode cX3_init 18 = .ok (.iconst 0, 1) := by decide +kernel
theorem dX3_init_19 : decode cX3_init 19 = .ok (.putfield 19, 3) := by decide +kernel
theorem dX3_init_22 : decode cX3_init 22 = .ok (.return_, 1) := by decide +kernel
def Dv3 : List Value := [.null, .int 0, .int 0]
theorem Dv3_ok : ∀ j, j < 3 → defaultValue (tyX3 j) = vp_V Dv3 j := by
  intro j hj
  match j, hj with
  | 0, _ => rfl
  | 1, _ => rfl
  | 2, _ => rfl
  | j + 3, hj => exact absurd hj (by omega)
def L3 (g : Gh) (a : Nat → Nat) : va_W := [(a 0, .inr (3, [.ref (a 1), .int 0, .int 0])), (a 1, za g 0 12)]
set_option maxHeartbeats 4000000 in
set_option maxRecDepth 100000 in
theorem k_X3 {l : Launch} {g : Gh} : CtM l g yX3_init cX3_init 1 1 1 12 3 Dv3 [] (fun q0 r => ∃ a : Nat → Nat, a 0 = q0 ∧ r = L3 g a) := by
  refine ct_start (by decide) rfl (Nat.le_of_ble_eq_true rfl) ?_
  intro q0 p e s m args below meth c ls A X hinit hr hl hL hA
  have hx := X.1
  have hb := X.2.1
  have hml := X.2.2.1
  have hown := X.2.2.2.1
  have ht := X.2.2.2.2.1
  have hl : lv_has ls 1 [(0, .ref q0)] := hl
  have hL : LW g A [(q0, .inr (3, [.null, .int 0, .int 0]))] s.heap s.heap [] := hL
  refine lv_aload_n hx hb dX3_init_0 rfl (lv_at hl 0 rfl) ?_
  refine x_obj X tw_1_177 tw_1_34 tw_1_35 hl.1 (Nat.le_of_ble_eq_true rfl) (Nat.le_of_ble_eq_true rfl) dX3_init_1 ?_
  refine lv_aload_n hx hb dX3_init_4 rfl (lv_at hl 0 rfl) ?_
  refine lv_bipush (v := (12 : Int32)) hx hb dX3_init_5 (by decide) ?_
  refine x_newI X hL (N := 12) (by decide) (by decide) (by decide) (Nat.le_of_ble_eq_true rfl) (Nat.le_of_ble_eq_true rfl) dX3_init_7 (fun q1 H hL => ?_)
  have hL : LW g A [(q0, .inr (3, [.null, .int 0, .int 0])), (q1, za g 0 12)] s.heap H _ := hL
  refine x_putF (ci := 3) (k := 0) (j := 0) (ws2 := [(q0, .inr (3, [.ref q1, .int 0, .int 0])), (q1, za g 0 12)]) X hL hinit rfl rfl cs_3 (by decide) tw_1_178 rfl rfl rfl (tyX3_ok 0 (by decide)) (ref_fit rfl).1 (ref_fit rfl).2 (Nat.le_of_ble_eq_true rfl) rfl dX3_init_9 (fun H locs hL => ?_)
  refine lv_aload_n hx hb dX3_init_12 rfl (lv_at hl 0 rfl) ?_
  refine lv_iconst (v := (0 : Int32)) hx hb dX3_init_13 (by decide) ?_
  refine x_put (ci := 3) (k := 1) (j := 0) (ws2 := [(q0, .inr (3, [.ref q1, .int 0, .int 0])), (q1, za g 0 12)]) X hL rfl rfl cs_3 (by decide) tw_1_179 rfl rfl (tyX3_ok 1 (by decide)) rfl rfl (Nat.le_of_ble_eq_true rfl) rfl dX3_init_14 (fun H locs hL => ?_)
  refine lv_aload_n hx hb dX3_init_17 rfl (lv_at hl 0 rfl) ?_
  refine lv_iconst (v := (0 : Int32)) hx hb dX3_init_18 (by decide) ?_
  refine x_put (ci := 3) (k := 2) (j := 0) (ws2 := [(q0, .inr (3, [.ref q1, .int 0, .int 0])), (q1, za g 0 12)]) X hL rfl rfl cs_3 (by decide) tw_1_180 rfl rfl (tyX3_ok 2 (by decide)) rfl rfl (Nat.le_of_ble_eq_true rfl) rfl dX3_init_19 (fun H locs hL => ?_)
  exact x_end X hL hA hr ⟨adL [q0, q1], rfl, rfl⟩ (Nat.le_of_ble_eq_true rfl) (Nat.le_of_ble_eq_true rfl) dX3_init_22
theorem dX4_init_0 : decode cX4_init 0 = .ok (.aload_n 0, 1) := by decide +kernel
theorem dX4_init_1 : decode cX4_init 1 = .ok (.invokespecial 3, 3) := by decide +kernel
theorem dX4_init_4 : decode cX4_init 4 = .ok (.aload_n 0, 1) := by decide +kernel
theorem dX4_init_5 : decode cX4_init 5 = .ok (.bipush 16, 2) := by decide +kernel
theorem dX4_init_7 : decode cX4_init 7 = .ok (.newarray .long, 2) := by decide +kernel
theorem dX4_init_9 : decode cX4_init 9 = .ok (.putfield 9, 3) := by decide +kernel
theorem dX4_init_12 : decode cX4_init 12 = .ok (.aload_n 0, 1) := by decide +kernel
theorem dX4_init_13 : decode cX4_init 13 = .ok (.iconst 0, 1) := by decide +kernel
theorem dX4_init_14 : decode cX4_init 14 = .ok (.putfield 15, 3) := by decide +kernel
theorem dX4_init_17 : decode cX4_init 17 = .ok (.aload_n 0, 1) := by decide +kernel
theorem dX4_init_18 : decode cX4_init 18 = .ok (.iload_n 1, 1) := by decide +kernel
theorem dX4_init_19 : decode cX4_init 19 = .ok (.bipush 16, 2) := by decide +kernel
theorem dX4_init_21 : decode cX4_init 21 = .ok (.invokestatic 19, 3) := by decide +kernel
theorem dX4_init_24 : decode cX4_init 24 = .ok (.putfield 25, 3) := by decide +kernel
theorem dX4_init_27 : decode cX4_init 27 = .ok (.return_, 1) := by decide +kernel
def Dv4 : List Value := [.null, .int 0, .int 0]
theorem Dv4_ok : ∀ j, j < 3 → defaultValue (tyX4 j) = vp_V Dv4 j := by
  intro j hj
  match j, hj with
  | 0, _ => rfl
  | 1, _ => rfl
  | 2, _ => rfl
  | j + 3, hj => exact absurd hj (by omega)
def L4 (g : Gh) (a : Nat → Nat) (n : Int32) : va_W := [(a 0, .inr (4, [.ref (a 1), .int n, .int 0])), (a 1, za g 1 16)]
set_option maxHeartbeats 4000000 in
set_option maxRecDepth 100000 in
theorem k_X4 {l : Launch} {g : Gh} {n : Int32} (hn : (if (16 : Int32) < n then 16 else n) = n) : CtM l g yX4_init cX4_init 2 1 1 16 4 Dv4 [.int n] (fun q0 r => ∃ a : Nat → Nat, a 0 = q0 ∧ r = L4 g a n) := by
  refine ct_start (by decide) rfl (Nat.le_of_ble_eq_true rfl) ?_
  intro q0 p e s m args below meth c ls A X hinit hr hl hL hA
  have hx := X.1
  have hb := X.2.1
  have hml := X.2.2.1
  have hown := X.2.2.2.1
  have ht := X.2.2.2.2.1
  have hl : lv_has ls 2 [(0, .ref q0), (1, .int n)] := hl
  have hL : LW g A [(q0, .inr (4, [.null, .int 0, .int 0]))] s.heap s.heap [] := hL
  refine lv_aload_n hx hb dX4_init_0 rfl (lv_at hl 0 rfl) ?_
  refine x_obj X tw_1_84 tw_1_34 tw_1_35 hl.1 (Nat.le_of_ble_eq_true rfl) (Nat.le_of_ble_eq_true rfl) dX4_init_1 ?_
  refine lv_aload_n hx hb dX4_init_4 rfl (lv_at hl 0 rfl) ?_
  refine lv_bipush (v := (16 : Int32)) hx hb dX4_init_5 (by decide) ?_
  refine x_newJ X hL (N := 16) (by decide) (by decide) (by decide) (Nat.le_of_ble_eq_true rfl) (Nat.le_of_ble_eq_true rfl) dX4_init_7 (fun q1 H hL => ?_)
  have hL : LW g A [(q0, .inr (4, [.null, .int 0, .int 0])), (q1, za g 1 16)] s.heap H _ := hL
  refine x_putF (ci := 4) (k := 0) (j := 0) (ws2 := [(q0, .inr (4, [.ref q1, .int 0, .int 0])), (q1, za g 1 16)]) X hL hinit rfl rfl cs_4 (by decide) tw_1_88 rfl rfl rfl (tyX4_ok 0 (by decide)) (ref_fit rfl).1 (ref_fit rfl).2 (Nat.le_of_ble_eq_true rfl) rfl dX4_init_9 (fun H locs hL => ?_)
  refine lv_aload_n hx hb dX4_init_12 rfl (lv_at hl 0 rfl) ?_
  refine lv_iconst (v := (0 : Int32)) hx hb dX4_init_13 (by decide) ?_
  refine x_put (ci := 4) (k := 2) (j := 0) (ws2 := [(q0, .inr (4, [.ref q1, .int 0, .int 0])), (q1, za g 1 16)]) X hL rfl rfl cs_4 (by decide) tw_1_90 rfl rfl (tyX4_ok 2 (by decide)) rfl rfl (Nat.le_of_ble_eq_true rfl) rfl dX4_init_14 (fun H locs hL => ?_)
  refine lv_aload_n hx hb dX4_init_17 rfl (lv_at hl 0 rfl) ?_
  refine lv_iload_n hx hb dX4_init_18 rfl (lv_at hl 1 rfl) ?_
  refine lv_bipush (v := (16 : Int32)) hx hb dX4_init_19 (by decide) ?_
  refine va_mmin hx hb (hml.trans hl.1.symm) hown (ht _ tw_1_85) (ht _ tw_1_86) (ht _ tw_1_5) (ht _ tw_1_87) (Nat.le_of_ble_eq_true rfl) (Nat.le_of_ble_eq_true rfl) (Nat.le_of_ble_eq_true rfl) (Nat.le_of_ble_eq_true rfl) dX4_init_21 ?_
  rw [hn]
  refine x_putF (ci := 4) (k := 1) (j := 0) (ws2 := [(q0, .inr (4, [.ref q1, .int n, .int 0])), (q1, za g 1 16)]) X hL hinit rfl rfl cs_4 (by decide) tw_1_89 rfl rfl rfl (tyX4_ok 1 (by decide)) rfl rfl (Nat.le_of_ble_eq_true rfl) rfl dX4_init_24 (fun H locs hL => ?_)
  exact x_end X hL hA hr ⟨adL [q0, q1], rfl, rfl⟩ (Nat.le_of_ble_eq_true rfl) (Nat.le_of_ble_eq_true rfl) dX4_init_27
theorem dX5_init_0 : decode cX5_init 0 = .ok (.aload_n 0, 1) := by decide +kernel
theorem dX5_init_1 : decode cX5_init 1 = .ok (.invokespecial 3, 3) := by decide +kernel
theorem dX5_init_4 : decode cX5_init 4 = .ok (.aload_n 0, 1) := by decide +kernel
theorem dX5_init_5 : decode cX5_init 5 = .ok (.sipush 600, 3) := by decide +kernel
theorem dX5_init_8 : decode cX5_init 8 = .ok (.newarray .byte, 2) := by decide +kernel
theorem dX5_init_10 : decode cX5_init 10 = .ok (.putfield 9, 3) := by decide +kernel
theorem dX5_init_13 : decode cX5_init 13 = .ok (.aload_n 0, 1) := by decide +kernel
theorem dX5_init_14 : decode cX5_init 14 = .ok (.iconst 0, 1) := by decide +kernel
theorem dX5_init_15 : decode cX5_init 15 = .ok (.putfield 15, 3) := by decide +kernel
theorem dX5_init_18 : decode cX5_init 18 = .ok (.aload_n 0, 1) := by decide +kernel
theorem dX5_init_19 : decode cX5_init 19 = .ok (.iconst 0, 1) := by decide +kernel
theorem dX5_init_20 : decode cX5_init 20 = .ok (.putfield 19, 3) := by decide +kernel
theorem dX5_init_23 : decode cX5_init 23 = .ok (.aload_n 0, 1) := by decide +kernel
theorem dX5_init_24 : decode cX5_init 24 = .ok (.iconst 0, 1) := by decide +kernel
theorem dX5_init_25 : decode cX5_init 25 = .ok (.putfield 22, 3) := by decide +kernel
theorem dX5_init_28 : decode cX5_init 28 = .ok (.aload_n 0, 1) := by decide +kernel
theorem dX5_init_29 : decode cX5_init 29 = .ok (.iconst 0, 1) := by decide +kernel
theorem dX5_init_30 : decode cX5_init 30 = .ok (.putfield 25, 3) := by decide +kernel
theorem dX5_init_33 : decode cX5_init 33 = .ok (.aload_n 0, 1) := by decide +kernel
theorem dX5_init_34 : decode cX5_init 34 = .ok (.iconst 0, 1) := by decide +kernel
theorem dX5_init_35 : decode cX5_init 35 = .ok (.putfield 28, 3) := by decide +kernel
theorem dX5_init_38 : decode cX5_init 38 = .ok (.aload_n 0, 1) := by decide +kernel
theorem dX5_init_39 : decode cX5_init 39 = .ok (.lconst 0, 1) := by decide +kernel
theorem dX5_init_40 : decode cX5_init 40 = .ok (.putfield 31, 3) := by decide +kernel
theorem dX5_init_43 : decode cX5_init 43 = .ok (.aload_n 0, 1) := by decide +kernel
theorem dX5_init_44 : decode cX5_init 44 = .ok (.iconst 0, 1) := by decide +kernel
theorem dX5_init_45 : decode cX5_init 45 = .ok (.putfield 35, 3) := by decide +kernel
theorem dX5_init_48 : decode cX5_init 48 = .ok (.aload_n 0, 1) := by decide +kernel
theorem dX5_init_49 : decode cX5_init 49 = .ok (.iconst 3, 1) := by decide +kernel
theorem dX5_init_50 : decode cX5_init 50 = .ok (.newarray .int, 2) := by decide +kernel
theorem dX5_init_52 : decode cX5_init 52 = .ok (.putfield 38, 3) := by decide +kernel
theorem dX5_init_55 : decode cX5_init 55 = .ok (.return_, 1) := by decide +kernel
def Dv5 : List Value := [.null, .int 0, .int 0, .int 0, .int 0, .int 0, .long 0, .int 0, .null]
theorem Dv5_ok : ∀ j, j < 9 → defaultValue (tyX5 j) = vp_V Dv5 j := by
  intro j hj
  match j, hj with
  | 0, _ => rfl
  | 1, _ => rfl
  | 2, _ => rfl
  | 3, _ => rfl
  | 4, _ => rfl
  | 5, _ => rfl
  | 6, _ => rfl
  | 7, _ => rfl
  | 8, _ => rfl
  | j + 9, hj => exact absurd hj (by omega)
def L5 (g : Gh) (a : Nat → Nat) : va_W := [(a 0, .inr (5, [.ref (a 1), .int 0, .int 0, .int 0, .int 0, .int 0, .long 0, .int 0, .ref (a 2)])), (a 1, za g 2 600), (a 2, za g 0 3)]
set_option maxHeartbeats 4000000 in
set_option maxRecDepth 100000 in
theorem k_X5 {l : Launch} {g : Gh} : CtM l g yX5_init cX5_init 1 1 2 603 5 Dv5 [] (fun q0 r => ∃ a : Nat → Nat, a 0 = q0 ∧ r = L5 g a) := by
  refine ct_start (by decide) rfl (Nat.le_of_ble_eq_true rfl) ?_
  intro q0 p e s m args below meth c ls A X hinit hr hl hL hA
  have hx := X.1
  have hb := X.2.1
  have hml := X.2.2.1
  have hown := X.2.2.2.1
  have ht := X.2.2.2.2.1
  have hl : lv_has ls 1 [(0, .ref q0)] := hl
  have hL : LW g A [(q0, .inr (5, [.null, .int 0, .int 0, .int 0, .int 0, .int 0, .long 0, .int 0, .null]))] s.heap s.heap [] := hL
  refine lv_aload_n hx hb dX5_init_0 rfl (lv_at hl 0 rfl) ?_
  refine x_obj X tw_1_41 tw_1_34 tw_1_35 hl.1 (Nat.le_of_ble_eq_true rfl) (Nat.le_of_ble_eq_true rfl) dX5_init_1 ?_
  refine lv_aload_n hx hb dX5_init_4 rfl (lv_at hl 0 rfl) ?_
  refine lv_sipush (v := (600 : Int32)) hx hb dX5_init_5 (by decide) ?_
  refine x_newB X hL (N := 600) (by decide) (by decide) (by decide) (Nat.le_of_ble_eq_true rfl) (Nat.le_of_ble_eq_true rfl) dX5_init_8 (fun q1 H hL => ?_)
  have hL : LW g A [(q0, .inr (5, [.null, .int 0, .int 0, .int 0, .int 0, .int 0, .long 0, .int 0, .null])), (q1, za g 2 600)] s.heap H _ := hL
  refine x_putF (ci := 5) (k := 0) (j := 0) (ws2 := [(q0, .inr (5, [.ref q1, .int 0, .int 0, .int 0, .int 0, .int 0, .long 0, .int 0, .null])), (q1, za g 2 600)]) X hL hinit rfl rfl cs_5 (by decide) tw_1_42 rfl rfl rfl (tyX5_ok 0 (by decide)) (ref_fit rfl).1 (ref_fit rfl).2 (Nat.le_of_ble_eq_true rfl) rfl dX5_init_10 (fun H locs hL => ?_)
  refine lv_aload_n hx hb dX5_init_13 rfl (lv_at hl 0 rfl) ?_
  refine lv_iconst (v := (0 : Int32)) hx hb dX5_init_14 (by decide) ?_
  refine x_put (ci := 5) (k := 1) (j := 0) (ws2 := [(q0, .inr (5, [.ref q1, .int 0, .int 0, .int 0, .int 0, .int 0, .long 0, .int 0, .null])), (q1, za g 2 600)]) X hL rfl rfl cs_5 (by decide) tw_1_43 rfl rfl (tyX5_ok 1 (by decide)) rfl rfl (Nat.le_of_ble_eq_true rfl) rfl dX5_init_15 (fun H locs hL => ?_)
  refine lv_aload_n hx hb dX5_init_18 rfl (lv_at hl 0 rfl) ?_
  refine lv_iconst (v := (0 : Int32)) hx hb dX5_init_19 (by decide) ?_
  refine x_put (ci := 5) (k := 2) (j := 0) (ws2 := [(q0, .inr (5, [.ref q1, .int 0, .int 0, .int 0, .int 0, .int 0, .long 0, .int 0, .null])), (q1, za g 2 600)]) X hL rfl rfl cs_5 (by decide) tw_1_45 rfl rfl (tyX5_ok 2 (by decide)) rfl rfl (Nat.le_of_ble_eq_true rfl) rfl dX5_init_20 (fun H locs hL => ?_)
  refine lv_aload_n hx hb dX5_init_23 rfl (lv_at hl 0 rfl) ?_
  refine lv_iconst (v := (0 : Int32)) hx hb dX5_init_24 (by decide) ?_
  refine x_put (ci := 5) (k := 3) (j := 0) (ws2 := [(q0, .inr (5, [.ref q1, .int 0, .int 0, .int 0, .int 0, .int 0, .long 0, .int 0, .null])), (q1, za g 2 600)]) X hL rfl rfl cs_5 (by decide) tw_1_46 rfl rfl (tyX5_ok 3 (by decide)) rfl rfl (Nat.le_of_ble_eq_true rfl) rfl dX5_init_25 (fun H locs hL => ?_)
  refine lv_aload_n hx hb dX5_init_28 rfl (lv_at hl 0 rfl) ?_
  refine lv_iconst (v := (0 : Int32)) hx hb dX5_init_29 (by decide) ?_
  refine x_put (ci := 5) (k := 4) (j := 0) (ws2 := [(q0, .inr (5, [.ref q1, .int 0, .int 0, .int 0, .int 0, .int 0, .long 0, .int 0, .null])), (q1, za g 2 600)]) X hL rfl rfl cs_5 (by decide) tw_1_47 rfl rfl (tyX5_ok 4 (by decide)) rfl rfl (Nat.le_of_ble_eq_true rfl) rfl dX5_init_30 (fun H locs hL => ?_)
  refine lv_aload_n hx hb dX5_init_33 rfl (lv_at hl 0 rfl) ?_
  refine lv_iconst (v := (0 : Int32)) hx hb dX5_init_34 (by decide) ?_
  refine x_put (ci := 5) (k := 5) (j := 0) (ws2 := [(q0, .inr (5, [.ref q1, .int 0, .int 0, .int 0, .int 0, .int 0, .long 0, .int 0, .null])), (q1, za g 2 600)]) X hL rfl rfl cs_5 (by decide) tw_1_48 rfl rfl (tyX5_ok 5 (by decide)) rfl rfl (Nat.le_of_ble_eq_true rfl) rfl dX5_init_35 (fun H locs hL => ?_)
  refine lv_aload_n hx hb dX5_init_38 rfl (lv_at hl 0 rfl) ?_
  refine lv_lconst (v := 0) hx hb dX5_init_39 (by decide) ?_
  refine x_put (ci := 5) (k := 6) (j := 0) (ws2 := [(q0, .inr (5, [.ref q1, .int 0, .int 0, .int 0, .int 0, .int 0, .long 0, .int 0, .null])), (q1, za g 2 600)]) X hL rfl rfl cs_5 (by decide) tw_1_49 rfl rfl (tyX5_ok 6 (by decide)) rfl rfl (Nat.le_of_ble_eq_true rfl) rfl dX5_init_40 (fun H locs hL => ?_)
  refine lv_aload_n hx hb dX5_init_43 rfl (lv_at hl 0 rfl) ?_
  refine lv_iconst (v := (0 : Int32)) hx hb dX5_init_44 (by decide) ?_
  refine x_put (ci := 5) (k := 7) (j := 0) (ws2 := [(q0, .inr (5, [.ref q1, .int 0, .int 0, .int 0, .int 0, .int 0, .long 0, .int 0, .null])), (q1, za g 2 600)]) X hL rfl rfl cs_5 (by decide) tw_1_50 rfl rfl (tyX5_ok 7 (by decide)) rfl rfl (Nat.le_of_ble_eq_true rfl) rfl dX5_init_45 (fun H locs hL => ?_)
  refine lv_aload_n hx hb dX5_init_48 rfl (lv_at hl 0 rfl) ?_
  refine lv_iconst (v := (3 : Int32)) hx hb dX5_init_49 (by decide) ?_
  refine x_newI X hL (N := 3) (by decide) (by decide) (by decide) (Nat.le_of_ble_eq_true rfl) (Nat.le_of_ble_eq_true rfl) dX5_init_50 (fun q2 H hL => ?_)
  have hL : LW g A [(q0, .inr (5, [.ref q1, .int 0, .int 0, .int 0, .int 0, .int 0, .long 0, .int 0, .null])), (q1, za g 2 600), (q2, za g 0 3)] s.heap H _ := hL
  refine x_putF (ci := 5) (k := 8) (j := 0) (ws2 := [(q0, .inr (5, [.ref q1, .int 0, .int 0, .int 0, .int 0, .int 0, .long 0, .int 0, .ref q2])), (q1, za g 2 600), (q2, za g 0 3)]) X hL hinit rfl rfl cs_5 (by decide) tw_1_51 rfl rfl rfl (tyX5_ok 8 (by decide)) (ref_fit rfl).1 (ref_fit rfl).2 (Nat.le_of_ble_eq_true rfl) rfl dX5_init_52 (fun H locs hL => ?_)
  exact x_end X hL hA hr ⟨adL [q0, q1, q2], rfl, rfl⟩ (Nat.le_of_ble_eq_true rfl) (Nat.le_of_ble_eq_true rfl) dX5_init_55
theorem dX7_init_0 : decode cX7_init 0 = .ok (.aload_n 0, 1) := by decide +kernel
theorem dX7_init_1 : decode cX7_init 1 = .ok (.invokespecial 3, 3) := by decide +kernel
theorem dX7_init_4 : decode cX7_init 4 = .ok (.aload_n 0, 1) := by decide +kernel
theorem dX7_init_5 : decode cX7_init 5 = .ok (.bipush 56, 2) := by decide +kernel
theorem dX7_init_7 : decode cX7_init 7 = .ok (.newarray .int, 2) := by decide +kernel
theorem dX7_init_9 : decode cX7_init 9 = .ok (.putfield 9, 3) := by decide +kernel
theorem dX7_init_12 : decode cX7_init 12 = .ok (.aload_n 0, 1) := by decide +kernel
theorem dX7_init_13 : decode cX7_init 13 = .ok (.bipush 56, 2) := by decide +kernel
theorem dX7_init_15 : decode cX7_init 15 = .ok (.newarray .int, 2) := by decide +kernel
theorem dX7_init_17 : decode cX7_init 17 = .ok (.putfield 15, 3) := by decide +kernel
theorem dX7_init_20 : decode cX7_init 20 = .ok (.aload_n 0, 1) := by decide +kernel
theorem dX7_init_21 : decode cX7_init 21 = .ok (.iconst 0, 1) := by decide +kernel
theorem dX7_init_22 : decode cX7_init 22 = .ok (.putfield 18, 3) := by decide +kernel
theorem dX7_init_25 : decode cX7_init 25 = .ok (.aload_n 0, 1) := by decide +kernel
theorem dX7_init_26 : decode cX7_init 26 = .ok (.iconst 0, 1) := by decide +kernel
theorem dX7_init_27 : decode cX7_init 27 = .ok (.putfield 22, 3) := by decide +kernel
theorem dX7_init_30 : decode cX7_init 30 = .ok (.aload_n 0, 1) := by decide +kernel
theorem dX7_init_31 : decode cX7_init 31 = .ok (.iconst 0, 1) := by decide +kernel
theorem dX7_init_32 : decode cX7_init 32 = .ok (.putfield 25, 3) := by decide +kernel
theorem dX7_init_35 : decode cX7_init 35 = .ok (.aload_n 0, 1) := by decide +kernel
theorem dX7_init_36 : decode cX7_init 36 = .ok (.sipush 560, 3) := by decide +kernel
theorem dX7_init_39 : decode cX7_init 39 = .ok (.newarray .int, 2) := by decide +kernel
theorem dX7_init_41 : decode cX7_init 41 = .ok (.putfield 28, 3) := by decide +kernel
theorem dX7_init_44 : decode cX7_init 44 = .ok (.aload_n 0, 1) := by decide +kernel
theorem dX7_init_45 : decode cX7_init 45 = .ok (.sipush 560, 3) := by decide +kernel
theorem dX7_init_48 : decode cX7_init 48 = .ok (.newarray .int, 2) := by decide +kernel
theorem dX7_init_50 : decode cX7_init 50 = .ok (.putfield 31, 3) := by decide +kernel
theorem dX7_init_53 : decode cX7_init 53 = .ok (.aload_n 0, 1) := by decide +kernel
theorem dX7_init_54 : decode cX7_init 54 = .ok (.sipush 560, 3) := by decide +kernel
theorem dX7_init_57 : decode cX7_init 57 = .ok (.newarray .int, 2) := by decide +kernel
theorem dX7_init_59 : decode cX7_init 59 = .ok (.putfield 34, 3) := by decide +kernel
theorem dX7_init_62 : decode cX7_init 62 = .ok (.aload_n 0, 1) := by decide +kernel
theorem dX7_init_63 : decode cX7_init 63 = .ok (.sipush 560, 3) := by decide +kernel
theorem dX7_init_66 : decode cX7_init 66 = .ok (.newarray .int, 2) := by decide +kernel
theorem dX7_init_68 : decode cX7_init 68 = .ok (.putfield 37, 3) := by decide +kernel
theorem dX7_init_71 : decode cX7_init 71 = .ok (.aload_n 0, 1) := by decide +kernel
theorem dX7_init_72 : decode cX7_init 72 = .ok (.sipush 560, 3) := by decide +kernel
theorem dX7_init_75 : decode cX7_init 75 = .ok (.newarray .int, 2) := by decide +kernel
theorem dX7_init_77 : decode cX7_init 77 = .ok (.putfield 40, 3) := by decide +kernel
theorem dX7_init_80 : decode cX7_init 80 = .ok (.aload_n 0, 1) := by decide +kernel
theorem dX7_init_81 : decode cX7_init 81 = .ok (.sipush 560, 3) := by decide +kernel
theorem dX7_init_84 : decode cX7_init 84 = .ok (.newarray .int, 2) := by decide +kernel
theorem dX7_init_86 : decode cX7_init 86 = .ok (.putfield 43, 3) := by decide +kernel
theorem dX7_init_89 : decode cX7_init 89 = .ok (.return_, 1) := by decide +kernel
def Dv7 : List Value := [.null, .null, .int 0, .int 0, .int 0, .null, .null, .null, .null, .null, .null]
theorem Dv7_ok : ∀ j, j < 11 → defaultValue (tyX7 j) = vp_V Dv7 j := by
  intro j hj
  match j, hj with
  | 0, _ => rfl
  | 1, _ => rfl
  | 2, _ => rfl
  | 3, _ => rfl
  | 4, _ => rfl
  | 5, _ => rfl
  | 6, _ => rfl
  | 7, _ => rfl
  | 8, _ => rfl
  | 9, _ => rfl
  | 10, _ => rfl
  | j + 11, hj => exact absurd hj (by omega)
def L7 (g : Gh) (a : Nat → Nat) : va_W := [(a 0, .inr (7, [.ref (a 1), .ref (a 2), .int 0, .int 0, .int 0, .ref (a 3), .ref (a 4), .ref (a 5), .ref (a 6), .ref (a 7), .ref (a 8)])), (a 1, za g 0 56), (a 2, za g 0 56), (a 3, za g 0 560), (a 4, za g 0 560), (a 5, za g 0 560), (a 6, za g 0 560), (a 7, za g 0 560), (a 8, za g 0 560)]
set_option maxHeartbeats 4000000 in
set_option maxRecDepth 100000 in
theorem k_X7 {l : Launch} {g : Gh} : CtM l g yX7_init cX7_init 1 1 8 3472 7 Dv7 [] (fun q0 r => ∃ a : Nat → Nat, a 0 = q0 ∧ r = L7 g a) := by
  refine ct_start (by decide) rfl (Nat.le_of_ble_eq_true rfl) ?_
  intro q0 p e s m args below meth c ls A X hinit hr hl hL hA
  have hx := X.1
  have hb := X.2.1
  have hml := X.2.2.1
  have hown := X.2.2.2.1
  have ht := X.2.2.2.2.1
  have hl : lv_has ls 1 [(0, .ref q0)] := hl
  have hL : LW g A [(q0, .inr (7, [.null, .null, .int 0, .int 0, .int 0, .null, .null, .null, .null, .null, .null]))] s.heap s.heap [] := hL
  refine lv_aload_n hx hb dX7_init_0 rfl (lv_at hl 0 rfl) ?_
  refine x_obj X tw_1_196 tw_1_34 tw_1_35 hl.1 (Nat.le_of_ble_eq_true rfl) (Nat.le_of_ble_eq_true rfl) dX7_init_1 ?_
  refine lv_aload_n hx hb dX7_init_4 rfl (lv_at hl 0 rfl) ?_
  refine lv_bipush (v := (56 : Int32)) hx hb dX7_init_5 (by decide) ?_
  refine x_newI X hL (N := 56) (by decide) (by decide) (by decide) (Nat.le_of_ble_eq_true rfl) (Nat.le_of_ble_eq_true rfl) dX7_init_7 (fun q1 H hL => ?_)
  have hL : LW g A [(q0, .inr (7, [.null, .null, .int 0, .int 0, .int 0, .null, .null, .null, .null, .null, .null])), (q1, za g 0 56)] s.heap H _ := hL
  refine x_putF (ci := 7) (k := 0) (j := 0) (ws2 := [(q0, .inr (7, [.ref q1, .null, .int 0, .int 0, .int 0, .null, .null, .null, .null, .null, .null])), (q1, za g 0 56)]) X hL hinit rfl rfl cs_7 (by decide) tw_1_197 rfl rfl rfl (tyX7_ok 0 (by decide)) (ref_fit rfl).1 (ref_fit rfl).2 (Nat.le_of_ble_eq_true rfl) rfl dX7_init_9 (fun H locs hL => ?_)
  refine lv_aload_n hx hb dX7_init_12 rfl (lv_at hl 0 rfl) ?_
  refine lv_bipush (v := (56 : Int32)) hx hb dX7_init_13 (by decide) ?_
  refine x_newI X hL (N := 56) (by decide) (by decide) (by decide) (Nat.le_of_ble_eq_true rfl) (Nat.le_of_ble_eq_true rfl) dX7_init_15 (fun q2 H hL => ?_)
  have hL : LW g A [(q0, .inr (7, [.ref q1, .null, .int 0, .int 0, .int 0, .null, .null, .null, .null, .null, .null])), (q1, za g 0 56), (q2, za g 0 56)] s.heap H _ := hL
  refine x_putF (ci := 7) (k := 1) (j := 0) (ws2 := [(q0, .inr (7, [.ref q1, .ref q2, .int 0, .int 0, .int 0, .null, .null, .null, .null, .null, .null])), (q1, za g 0 56), (q2, za g 0 56)]) X hL hinit rfl rfl cs_7 (by decide) tw_1_200 rfl rfl rfl (tyX7_ok 1 (by decide)) (ref_fit rfl).1 (ref_fit rfl).2 (Nat.le_of_ble_eq_true rfl) rfl dX7_init_17 (fun H locs hL => ?_)
  refine lv_aload_n hx hb dX7_init_20 rfl (lv_at hl 0 rfl) ?_
  refine lv_iconst (v := (0 : Int32)) hx hb dX7_init_21 (by decide) ?_
  refine x_put (ci := 7) (k := 2) (j := 0) (ws2 := [(q0, .inr (7, [.ref q1, .ref q2, .int 0, .int 0, .int 0, .null, .null, .null, .null, .null, .null])), (q1, za g 0 56), (q2, za g 0 56)]) X hL rfl rfl cs_7 (by decide) tw_1_201 rfl rfl (tyX7_ok 2 (by decide)) rfl rfl (Nat.le_of_ble_eq_true rfl) rfl dX7_init_22 (fun H locs hL => ?_)
  refine lv_aload_n hx hb dX7_init_25 rfl (lv_at hl 0 rfl) ?_
  refine lv_iconst (v := (0 : Int32)) hx hb dX7_init_26 (by decide) ?_
  refine x_put (ci := 7) (k := 3) (j := 0) (ws2 := [(q0, .inr (7, [.ref q1, .ref q2, .int 0, .int 0, .int 0, .null, .null, .null, .null, .null, .null])), (q1, za g 0 56), (q2, za g 0 56)]) X hL rfl rfl cs_7 (by decide) tw_1_203 rfl rfl (tyX7_ok 3 (by decide)) rfl rfl (Nat.le_of_ble_eq_true rfl) rfl dX7_init_27 (fun H locs hL => ?_)
  refine lv_aload_n hx hb dX7_init_30 rfl (lv_at hl 0 rfl) ?_
  refine lv_iconst (v := (0 : Int32)) hx hb dX7_init_31 (by decide) ?_
  refine x_put (ci := 7) (k := 4) (j := 0) (ws2 := [(q0, .inr (7, [.ref q1, .ref q2, .int 0, .int 0, .int 0, .null, .null, .null, .null, .null, .null])), (q1, za g 0 56), (q2, za g 0 56)]) X hL rfl rfl cs_7 (by decide) tw_1_205 rfl rfl (tyX7_ok 4 (by decide)) rfl rfl (Nat.le_of_ble_eq_true rfl) rfl dX7_init_32 (fun H locs hL => ?_)
  refine lv_aload_n hx hb dX7_init_35 rfl (lv_at hl 0 rfl) ?_
  refine lv_sipush (v := (560 : Int32)) hx hb dX7_init_36 (by decide) ?_
  refine x_newI X hL (N := 560) (by decide) (by decide) (by decide) (Nat.le_of_ble_eq_true rfl) (Nat.le_of_ble_eq_true rfl) dX7_init_39 (fun q3 H hL => ?_)
  have hL : LW g A [(q0, .inr (7, [.ref q1, .ref q2, .int 0, .int 0, .int 0, .null, .null, .null, .null, .null, .null])), (q1, za g 0 56), (q2, za g 0 56), (q3, za g 0 560)] s.heap H _ := hL
  refine x_putF (ci := 7) (k := 5) (j := 0) (ws2 := [(q0, .inr (7, [.ref q1, .ref q2, .int 0, .int 0, .int 0, .ref q3, .null, .null, .null, .null, .null])), (q1, za g 0 56), (q2, za g 0 56), (q3, za g 0 560)]) X hL hinit rfl rfl cs_7 (by decide) tw_1_206 rfl rfl rfl (tyX7_ok 5 (by decide)) (ref_fit rfl).1 (ref_fit rfl).2 (Nat.le_of_ble_eq_true rfl) rfl dX7_init_41 (fun H locs hL => ?_)
  refine lv_aload_n hx hb dX7_init_44 rfl (lv_at hl 0 rfl) ?_
  refine lv_sipush (v := (560 : Int32)) hx hb dX7_init_45 (by decide) ?_
  refine x_newI X hL (N := 560) (by decide) (by decide) (by decide) (Nat.le_of_ble_eq_true rfl) (Nat.le_of_ble_eq_true rfl) dX7_init_48 (fun q4 H hL => ?_)
  have hL : LW g A [(q0, .inr (7, [.ref q1, .ref q2, .int 0, .int 0, .int 0, .ref q3, .null, .null, .null, .null, .null])), (q1, za g 0 56), (q2, za g 0 56), (q3, za g 0 560), (q4, za g 0 560)] s.heap H _ := hL
  refine x_putF (ci := 7) (k := 6) (j := 0) (ws2 := [(q0, .inr (7, [.ref q1, .ref q2, .int 0, .int 0, .int 0, .ref q3, .ref q4, .null, .null, .null, .null])), (q1, za g 0 56), (q2, za g 0 56), (q3, za g 0 560), (q4, za g 0 560)]) X hL hinit rfl rfl cs_7 (by decide) tw_1_208 rfl rfl rfl (tyX7_ok 6 (by decide)) (ref_fit rfl).1 (ref_fit rfl).2 (Nat.le_of_ble_eq_true rfl) rfl dX7_init_50 (fun H locs hL => ?_)
  refine lv_aload_n hx hb dX7_init_53 rfl (lv_at hl 0 rfl) ?_
  refine lv_sipush (v := (560 : Int32)) hx hb dX7_init_54 (by decide) ?_
  refine x_newI X hL (N := 560) (by decide) (by decide) (by decide) (Nat.le_of_ble_eq_true rfl) (Nat.le_of_ble_eq_true rfl) dX7_init_57 (fun q5 H hL => ?_)
  have hL : LW g A [(q0, .inr (7, [.ref q1, .ref q2, .int 0, .int 0, .int 0, .ref q3, .ref q4, .null, .null, .null, .null])), (q1, za g 0 56), (q2, za g 0 56), (q3, za g 0 560), (q4, za g 0 560), (q5, za g 0 560)] s.heap H _ := hL
  refine x_putF (ci := 7) (k := 7) (j := 0) (ws2 := [(q0, .inr (7, [.ref q1, .ref q2, .int 0, .int 0, .int 0, .ref q3, .ref q4, .ref q5, .null, .null, .null])), (q1, za g 0 56), (q2, za g 0 56), (q3, za g 0 560), (q4, za g 0 560), (q5, za g 0 560)]) X hL hinit rfl rfl cs_7 (by decide) tw_1_209 rfl rfl rfl (tyX7_ok 7 (by decide)) (ref_fit rfl).1 (ref_fit rfl).2 (Nat.le_of_ble_eq_true rfl) rfl dX7_init_59 (fun H locs hL => ?_)
  refine lv_aload_n hx hb dX7_init_62 rfl (lv_at hl 0 rfl) ?_
  refine lv_sipush (v := (560 : Int32)) hx hb dX7_init_63 (by decide) ?_
  refine x_newI X hL (N := 560) (by decide) (by decide) (by decide) (Nat.le_of_ble_eq_true rfl) (Nat.le_of_ble_eq_true rfl) dX7_init_66 (fun q6 H hL => ?_)
  have hL : LW g A [(q0, .inr (7, [.ref q1, .ref q2, .int 0, .int 0, .int 0, .ref q3, .ref q4, .ref q5, .null, .null, .null])), (q1, za g 0 56), (q2, za g 0 56), (q3, za g 0 560), (q4, za g 0 560), (q5, za g 0 560), (q6, za g 0 560)] s.heap H _ := hL
  refine x_putF (ci := 7) (k := 8) (j := 0) (ws2 := [(q0, .inr (7, [.ref q1, .ref q2, .int 0, .int 0, .int 0, .ref q3, .ref q4, .ref q5, .ref q6, .null, .null])), (q1, za g 0 56), (q2, za g 0 56), (q3, za g 0 560), (q4, za g 0 560), (q5, za g 0 560), (q6, za g 0 560)]) X hL hinit rfl rfl cs_7 (by decide) tw_1_210 rfl rfl rfl (tyX7_ok 8 (by decide)) (ref_fit rfl).1 (ref_fit rfl).2 (Nat.le_of_ble_eq_true rfl) rfl dX7_init_68 (fun H locs hL => ?_)
  refine lv_aload_n hx hb dX7_init_71 rfl (lv_at hl 0 rfl) ?_
  refine lv_sipush (v := (560 : Int32)) hx hb dX7_init_72 (by decide) ?_
  refine x_newI X hL (N := 560) (by decide) (by decide) (by decide) (Nat.le_of_ble_eq_true rfl) (Nat.le_of_ble_eq_true rfl) dX7_init_75 (fun q7 H hL => ?_)
  have hL : LW g A [(q0, .inr (7, [.ref q1, .ref q2, .int 0, .int 0, .int 0, .ref q3, .ref q4, .ref q5, .ref q6, .null, .null])), (q1, za g 0 56), (q2, za g 0 56), (q3, za g 0 560), (q4, za g 0 560), (q5, za g 0 560), (q6, za g 0 560), (q7, za g 0 560)] s.heap H _ := hL
  refine x_putF (ci := 7) (k := 9) (j := 0) (ws2 := [(q0, .inr (7, [.ref q1, .ref q2, .int 0, .int 0, .int 0, .ref q3, .ref q4, .ref q5, .ref q6, .ref q7, .null])), (q1, za g 0 56), (q2, za g 0 56), (q3, za g 0 560), (q4, za g 0 560), (q5, za g 0 560), (q6, za g 0 560), (q7, za g 0 560)]) X hL hinit rfl rfl cs_7 (by decide) tw_1_211 rfl rfl rfl (tyX7_ok 9 (by decide)) (ref_fit rfl).1 (ref_fit rfl).2 (Nat.le_of_ble_eq_true rfl) rfl dX7_init_77 (fun H locs hL => ?_)
  refine lv_aload_n hx hb dX7_init_80 rfl (lv_at hl 0 rfl) ?_
  refine lv_sipush (v := (560 : Int32)) hx hb dX7_init_81 (by decide) ?_
  refine x_newI X hL (N := 560) (by decide) (by decide) (by decide) (Nat.le_of_ble_eq_true rfl) (Nat.le_of_ble_eq_true rfl) dX7_init_84 (fun q8 H hL => ?_)
  have hL : LW g A [(q0, .inr (7, [.ref q1, .ref q2, .int 0, .int 0, .int 0, .ref q3, .ref q4, .ref q5, .ref q6, .ref q7, .null])), (q1, za g 0 56), (q2, za g 0 56), (q3, za g 0 560), (q4, za g 0 560), (q5, za g 0 560), (q6, za g 0 560), (q7, za g 0 560), (q8, za g 0 560)] s.heap H _ := hL
  refine x_putF (ci := 7) (k := 10) (j := 0) (ws2 := [(q0, .inr (7, [.ref q1, .ref q2, .int 0, .int 0, .int 0, .ref q3, .ref q4, .ref q5, .ref q6, .ref q7, .ref q8])), (q1, za g 0 56), (q2, za g 0 56), (q3, za g 0 560), (q4, za g 0 560), (q5, za g 0 560), (q6, za g 0 560), (q7, za g 0 560), (q8, za g 0 560)]) X hL hinit rfl rfl cs_7 (by decide) tw_1_212 rfl rfl rfl (tyX7_ok 10 (by decide)) (ref_fit rfl).1 (ref_fit rfl).2 (Nat.le_of_ble_eq_true rfl) rfl dX7_init_86 (fun H locs hL => ?_)
  exact x_end X hL hA hr ⟨adL [q0, q1, q2, q3, q4, q5, q6, q7, q8], rfl, rfl⟩ (Nat.le_of_ble_eq_true rfl) (Nat.le_of_ble_eq_true rfl) dX7_init_89
theorem dX8_init_0 : decode cX8_init 0 = .ok (.aload_n 0, 1) := by decide +kernel
theorem dX8_init_1 : decode cX8_init 1 = .ok (.invokespecial 3, 3) := by decide +kernel
theorem dX8_init_4 : decode cX8_init 4 = .ok (.aload_n 0, 1) := by decide +kernel
theorem dX8_init_5 : decode cX8_init 5 = .ok (.bipush 56, 2) := by decide +kernel
theorem dX8_init_7 : decode cX8_init 7 = .ok (.newarray .int, 2) := by decide +kernel
theorem dX8_init_9 : decode cX8_init 9 = .ok (.putfield 9, 3) := by decide +kernel
theorem dX8_init_12 : decode cX8_init 12 = .ok (.return_, 1) := by decide +kernel
def Dv8 : List Value := [.null]
theorem Dv8_ok : ∀ j, j < 1 → defaultValue (tyX8 j) = vp_V Dv8 j := by
  intro j hj
  match j, hj with
  | 0, _ => rfl
  | j + 1, hj => exact absurd hj (by omega)
def L8 (g : Gh) (a : Nat → Nat) : va_W := [(a 0, .inr (8, [.ref (a 1)])), (a 1, za g 0 56)]
set_option maxHeartbeats 4000000 in
set_option maxRecDepth 100000 in
theorem k_X8 {l : Launch} {g : Gh} : CtM l g yX8_init cX8_init 1 1 1 56 8 Dv8 [] (fun q0 r => ∃ a : Nat → Nat, a 0 = q0 ∧ r = L8 g a) := by
  refine ct_start (by decide) rfl (Nat.le_of_ble_eq_true rfl) ?_
  intro q0 p e s m args below meth c ls A X hinit hr hl hL hA
  have hx := X.1
  have hb := X.2.1
  have hml := X.2.2.1
  have hown := X.2.2.2.1
  have ht := X.2.2.2.2.1
  have hl : lv_has ls 1 [(0, .ref q0)] := hl
  have hL : LW g A [(q0, .inr (8, [.null]))] s.heap s.heap [] := hL
  refine lv_aload_n hx hb dX8_init_0 rfl (lv_at hl 0 rfl) ?_
  refine x_obj X tw_2_35 tw_1_34 tw_1_35 hl.1 (Nat.le_of_ble_eq_true rfl) (Nat.le_of_ble_eq_true rfl) dX8_init_1 ?_
  refine lv_aload_n hx hb dX8_init_4 rfl (lv_at hl 0 rfl) ?_
  refine lv_bipush (v := (56 : Int32)) hx hb dX8_init_5 (by decide) ?_
  refine x_newI X hL (N := 56) (by decide) (by decide) (by decide) (Nat.le_of_ble_eq_true rfl) (Nat.le_of_ble_eq_true rfl) dX8_init_7 (fun q1 H hL => ?_)
  have hL : LW g A [(q0, .inr (8, [.null])), (q1, za g 0 56)] s.heap H _ := hL
  refine x_putF (ci := 8) (k := 0) (j := 0) (ws2 := [(q0, .inr (8, [.ref q1])), (q1, za g 0 56)]) X hL hinit rfl rfl cs_8 (by decide) tw_2_36 rfl rfl rfl (tyX8_ok 0 (by decide)) (ref_fit rfl).1 (ref_fit rfl).2 (Nat.le_of_ble_eq_true rfl) rfl dX8_init_9 (fun H locs hL => ?_)
  exact x_end X hL hA hr ⟨adL [q0, q1], rfl, rfl⟩ (Nat.le_of_ble_eq_true rfl) (Nat.le_of_ble_eq_true rfl) dX8_init_12
theorem dX6_init_0 : decode cX6_init 0 = .ok (.aload_n 0, 1) := by decide +kernel
theorem dX6_init_1 : decode cX6_init 1 = .ok (.invokespecial 3, 3) := by decide +kernel
theorem dX6_init_4 : decode cX6_init 4 = .ok (.aload_n 0, 1) := by decide +kernel
theorem dX6_init_5 : decode cX6_init 5 = .ok (.new 9, 3) := by decide +kernel
theorem dX6_init_8 : decode cX6_init 8 = .ok (.dup, 1) := by decide +kernel
theorem dX6_init_9 : decode cX6_init 9 = .ok (.bipush 16, 2) := by decide +kernel
theorem dX6_init_11 : decode cX6_init 11 = .ok (.invokespecial 11, 3) := by decide +kernel
theorem dX6_init_14 : decode cX6_init 14 = .ok (.putfield 14, 3) := by decide +kernel
theorem dX6_init_17 : decode cX6_init 17 = .ok (.aload_n 0, 1) := by decide +kernel
theorem dX6_init_18 : decode cX6_init 18 = .ok (.new 9, 3) := by decide +kernel
theorem dX6_init_21 : decode cX6_init 21 = .ok (.dup, 1) := by decide +kernel
theorem dX6_init_22 : decode cX6_init 22 = .ok (.bipush 10, 2) := by decide +kernel
theorem dX6_init_24 : decode cX6_init 24 = .ok (.invokespecial 11, 3) := by decide +kernel
theorem dX6_init_27 : decode cX6_init 27 = .ok (.putfield 20, 3) := by decide +kernel
theorem dX6_init_30 : decode cX6_init 30 = .ok (.aload_n 0, 1) := by decide +kernel
theorem dX6_init_31 : decode cX6_init 31 = .ok (.new 9, 3) := by decide +kernel
theorem dX6_init_34 : decode cX6_init 34 = .ok (.dup, 1) := by decide +kernel
theorem dX6_init_35 : decode cX6_init 35 = .ok (.iconst 4, 1) := by decide +kernel
theorem dX6_init_36 : decode cX6_init 36 = .ok (.invokespecial 11, 3) := by decide +kernel
theorem dX6_init_39 : decode cX6_init 39 = .ok (.putfield 23, 3) := by decide +kernel
theorem dX6_init_42 : decode cX6_init 42 = .ok (.aload_n 0, 1) := by decide +kernel
theorem dX6_init_43 : decode cX6_init 43 = .ok (.bipush 10, 2) := by decide +kernel
theorem dX6_init_45 : decode cX6_init 45 = .ok (.newarray .int, 2) := by decide +kernel
theorem dX6_init_47 : decode cX6_init 47 = .ok (.putfield 26, 3) := by decide +kernel
theorem dX6_init_50 : decode cX6_init 50 = .ok (.aload_n 0, 1) := by decide +kernel
theorem dX6_init_51 : decode cX6_init 51 = .ok (.bipush 10, 2) := by decide +kernel
theorem dX6_init_53 : decode cX6_init 53 = .ok (.newarray .int, 2) := by decide +kernel
theorem dX6_init_55 : decode cX6_init 55 = .ok (.putfield 30, 3) := by decide +kernel
theorem dX6_init_58 : decode cX6_init 58 = .ok (.aload_n 0, 1) := by decide +kernel
theorem dX6_init_59 : decode cX6_init 59 = .ok (.iconst 0, 1) := by decide +kernel
theorem dX6_init_60 : decode cX6_init 60 = .ok (.putfield 33, 3) := by decide +kernel
theorem dX6_init_63 : decode cX6_init 63 = .ok (.aload_n 0, 1) := by decide +kernel
theorem dX6_init_64 : decode cX6_init 64 = .ok (.new 37, 3) := by decide +kernel
theorem dX6_init_67 : decode cX6_init 67 = .ok (.dup, 1) := by decide +kernel
theorem dX6_init_68 : decode cX6_init 68 = .ok (.invokespecial 39, 3) := by decide +kernel
theorem dX6_init_71 : decode cX6_init 71 = .ok (.putfield 40, 3) := by decide +kernel
theorem dX6_init_74 : decode cX6_init 74 = .ok (.return_, 1) := by decide +kernel
def Dv6 : List Value := [.null, .null, .null, .null, .null, .int 0, .null]
theorem Dv6_ok : ∀ j, j < 7 → defaultValue (tyX6 j) = vp_V Dv6 j := by
  intro j hj
  match j, hj with
  | 0, _ => rfl
  | 1, _ => rfl
  | 2, _ => rfl
  | 3, _ => rfl
  | 4, _ => rfl
  | 5, _ => rfl
  | 6, _ => rfl
  | j + 7, hj => exact absurd hj (by omega)
def L6 (g : Gh) (a : Nat → Nat) : va_W := [(a 0, .inr (6, [.ref (a 1), .ref (a 3), .ref (a 5), .ref (a 7), .ref (a 8), .int 0, .ref (a 9)])), (a 1, .inr (4, [.ref (a 2), .int 16, .int 0])), (a 2, za g 1 16), (a 3, .inr (4, [.ref (a 4), .int 10, .int 0])), (a 4, za g 1 16), (a 5, .inr (4, [.ref (a 6), .int 4, .int 0])), (a 6, za g 1 16), (a 7, za g 0 10), (a 8, za g 0 10), (a 9, .inr (0, [.ref (a 10), .ref (a 11), .ref (a 12), .ref (a 13), .int 0, .int 0])), (a 10, za g 0 30), (a 11, za g 0 30), (a 12, za g 0 30), (a 13, za g 0 30)]
set_option maxHeartbeats 4000000 in
set_option maxRecDepth 100000 in
theorem k_X6 {l : Launch} {g : Gh} : CtM l g yX6_init cX6_init 1 2 13 203 6 Dv6 [] (fun q0 r => ∃ a : Nat → Nat, a 0 = q0 ∧ r = L6 g a) := by
  refine ct_start (by decide) rfl (Nat.le_of_ble_eq_true rfl) ?_
  intro q0 p e s m args below meth c ls A X hinit hr hl hL hA
  have hx := X.1
  have hb := X.2.1
  have hml := X.2.2.1
  have hown := X.2.2.2.1
  have ht := X.2.2.2.2.1
  have hl : lv_has ls 1 [(0, .ref q0)] := hl
  have hL : LW g A [(q0, .inr (6, [.null, .null, .null, .null, .null, .int 0, .null]))] s.heap s.heap [] := hL
  refine lv_aload_n hx hb dX6_init_0 rfl (lv_at hl 0 rfl) ?_
  refine x_obj X tw_1_78 tw_1_34 tw_1_35 hl.1 (Nat.le_of_ble_eq_true rfl) (Nat.le_of_ble_eq_true rfl) dX6_init_1 ?_
  refine lv_aload_n hx hb dX6_init_4 rfl (lv_at hl 0 rfl) ?_
  refine x_new (ci := 4) (N := 3) X hL rfl cs_4 tyX4_ok tw_1_79 tw_1_80 tw_1_4 Dv4_ok rfl (Nat.le_of_ble_eq_true rfl) (Nat.le_of_ble_eq_true rfl) dX6_init_5 (fun q1 H hL => ?_)
  refine lv_dup hx hb dX6_init_8 rfl ?_
  refine lv_bipush (v := (16 : Int32)) hx hb dX6_init_9 (by decide) ?_
  refine x_ctor (ws := [(q0, .inr (6, [.null, .null, .null, .null, .null, .int 0, .null]))]) (a := q1) (ci := 4) (df := Dv4) (As := [.int 16]) (rest := [.ref q1, .ref q0]) X hL (k_X4 (n := 16) (by decide)) tw_1_81 tw_1_83 tw_1_4 ⟨by decide, by decide, by decide⟩ tw_1_82 rfl ⟨(Nat.le_of_ble_eq_true rfl), (Nat.le_of_ble_eq_true rfl)⟩ rfl rfl hl.1 (Nat.le_of_ble_eq_true rfl) dX6_init_11 ⟨(Nat.le_of_ble_eq_true rfl), (Nat.le_of_ble_eq_true rfl)⟩ (fun nb H locs hB hL2 => ?_)
  obtain ⟨f2, ef2, rfl⟩ := hB
  subst ef2
  have hL : LW g A [(q0, .inr (6, [.null, .null, .null, .null, .null, .int 0, .null])), (f2 0, .inr (4, [.ref (f2 1), .int 16, .int 0])), (f2 1, za g 1 16)] s.heap H _ := hL2
  refine x_putF (ci := 6) (k := 0) (j := 0) (ws2 := [(q0, .inr (6, [.ref (f2 0), .null, .null, .null, .null, .int 0, .null])), (f2 0, .inr (4, [.ref (f2 1), .int 16, .int 0])), (f2 1, za g 1 16)]) X hL hinit rfl rfl cs_6 (by decide) tw_1_138 rfl rfl rfl (tyX6_ok 0 (by decide)) (ref_fit rfl).1 (ref_fit rfl).2 (Nat.le_of_ble_eq_true rfl) rfl dX6_init_14 (fun H locs hL => ?_)
  refine lv_aload_n hx hb dX6_init_17 rfl (lv_at hl 0 rfl) ?_
  refine x_new (ci := 4) (N := 3) X hL rfl cs_4 tyX4_ok tw_1_79 tw_1_80 tw_1_4 Dv4_ok rfl (Nat.le_of_ble_eq_true rfl) (Nat.le_of_ble_eq_true rfl) dX6_init_18 (fun q3 H hL => ?_)
  refine lv_dup hx hb dX6_init_21 rfl ?_
  refine lv_bipush (v := (10 : Int32)) hx hb dX6_init_22 (by decide) ?_
  refine x_ctor (ws := [(q0, .inr (6, [.ref (f2 0), .null, .null, .null, .null, .int 0, .null])), (f2 0, .inr (4, [.ref (f2 1), .int 16, .int 0])), (f2 1, za g 1 16)]) (a := q3) (ci := 4) (df := Dv4) (As := [.int 10]) (rest := [.ref q3, .ref q0]) X hL (k_X4 (n := 10) (by decide)) tw_1_81 tw_1_83 tw_1_4 ⟨by decide, by decide, by decide⟩ tw_1_82 rfl ⟨(Nat.le_of_ble_eq_true rfl), (Nat.le_of_ble_eq_true rfl)⟩ rfl rfl hl.1 (Nat.le_of_ble_eq_true rfl) dX6_init_24 ⟨(Nat.le_of_ble_eq_true rfl), (Nat.le_of_ble_eq_true rfl)⟩ (fun nb H locs hB hL2 => ?_)
  obtain ⟨f4, ef4, rfl⟩ := hB
  subst ef4
  have hL : LW g A [(q0, .inr (6, [.ref (f2 0), .null, .null, .null, .null, .int 0, .null])), (f2 0, .inr (4, [.ref (f2 1), .int 16, .int 0])), (f2 1, za g 1 16), (f4 0, .inr (4, [.ref (f4 1), .int 10, .int 0])), (f4 1, za g 1 16)] s.heap H _ := hL2
  refine x_putF (ci := 6) (k := 1) (j := 0) (ws2 := [(q0, .inr (6, [.ref (f2 0), .ref (f4 0), .null, .null, .null, .int 0, .null])), (f2 0, .inr (4, [.ref (f2 1), .int 16, .int 0])), (f2 1, za g 1 16), (f4 0, .inr (4, [.ref (f4 1), .int 10, .int 0])), (f4 1, za g 1 16)]) X hL hinit rfl rfl cs_6 (by decide) tw_1_141 rfl rfl rfl (tyX6_ok 1 (by decide)) (ref_fit rfl).1 (ref_fit rfl).2 (Nat.le_of_ble_eq_true rfl) rfl dX6_init_27 (fun H locs hL => ?_)
  refine lv_aload_n hx hb dX6_init_30 rfl (lv_at hl 0 rfl) ?_
  refine x_new (ci := 4) (N := 3) X hL rfl cs_4 tyX4_ok tw_1_79 tw_1_80 tw_1_4 Dv4_ok rfl (Nat.le_of_ble_eq_true rfl) (Nat.le_of_ble_eq_true rfl) dX6_init_31 (fun q5 H hL => ?_)
  refine lv_dup hx hb dX6_init_34 rfl ?_
  refine lv_iconst (v := (4 : Int32)) hx hb dX6_init_35 (by decide) ?_
  refine x_ctor (ws := [(q0, .inr (6, [.ref (f2 0), .ref (f4 0), .null, .null, .null, .int 0, .null])), (f2 0, .inr (4, [.ref (f2 1), .int 16, .int 0])), (f2 1, za g 1 16), (f4 0, .inr (4, [.ref (f4 1), .int 10, .int 0])), (f4 1, za g 1 16)]) (a := q5) (ci := 4) (df := Dv4) (As := [.int 4]) (rest := [.ref q5, .ref q0]) X hL (k_X4 (n := 4) (by decide)) tw_1_81 tw_1_83 tw_1_4 ⟨by decide, by decide, by decide⟩ tw_1_82 rfl ⟨(Nat.le_of_ble_eq_true rfl), (Nat.le_of_ble_eq_true rfl)⟩ rfl rfl hl.1 (Nat.le_of_ble_eq_true rfl) dX6_init_36 ⟨(Nat.le_of_ble_eq_true rfl), (Nat.le_of_ble_eq_true rfl)⟩ (fun nb H locs hB hL2 => ?_)
  obtain ⟨f6, ef6, rfl⟩ := hB
  subst ef6
  have hL : LW g A [(q0, .inr (6, [.ref (f2 0), .ref (f4 0), .null, .null, .null, .int 0, .null])), (f2 0, .inr (4, [.ref (f2 1), .int 16, .int 0])), (f2 1, za g 1 16), (f4 0, .inr (4, [.ref (f4 1), .int 10, .int 0])), (f4 1, za g 1 16), (f6 0, .inr (4, [.ref (f6 1), .int 4, .int 0])), (f6 1, za g 1 16)] s.heap H _ := hL2
  refine x_putF (ci := 6) (k := 2) (j := 0) (ws2 := [(q0, .inr (6, [.ref (f2 0), .ref (f4 0), .ref (f6 0), .null, .null, .int 0, .null])), (f2 0, .inr (4, [.ref (f2 1), .int 16, .int 0])), (f2 1, za g 1 16), (f4 0, .inr (4, [.ref (f4 1), .int 10, .int 0])), (f4 1, za g 1 16), (f6 0, .inr (4, [.ref (f6 1), .int 4, .int 0])), (f6 1, za g 1 16)]) X hL hinit rfl rfl cs_6 (by decide) tw_1_144 rfl rfl rfl (tyX6_ok 2 (by decide)) (ref_fit rfl).1 (ref_fit rfl).2 (Nat.le_of_ble_eq_true rfl) rfl dX6_init_39 (fun H locs hL => ?_)
  refine lv_aload_n hx hb dX6_init_42 rfl (lv_at hl 0 rfl) ?_
  refine lv_bipush (v := (10 : Int32)) hx hb dX6_init_43 (by decide) ?_
  refine x_newI X hL (N := 10) (by decide) (by decide) (by decide) (Nat.le_of_ble_eq_true rfl) (Nat.le_of_ble_eq_true rfl) dX6_init_45 (fun q7 H hL => ?_)
  have hL : LW g A [(q0, .inr (6, [.ref (f2 0), .ref (f4 0), .ref (f6 0), .null, .null, .int 0, .null])), (f2 0, .inr (4, [.ref (f2 1), .int 16, .int 0])), (f2 1, za g 1 16), (f4 0, .inr (4, [.ref (f4 1), .int 10, .int 0])), (f4 1, za g 1 16), (f6 0, .inr (4, [.ref (f6 1), .int 4, .int 0])), (f6 1, za g 1 16), (q7, za g 0 10)] s.heap H _ := hL
  refine x_putF (ci := 6) (k := 3) (j := 0) (ws2 := [(q0, .inr (6, [.ref (f2 0), .ref (f4 0), .ref (f6 0), .ref q7, .null, .int 0, .null])), (f2 0, .inr (4, [.ref (f2 1), .int 16, .int 0])), (f2 1, za g 1 16), (f4 0, .inr (4, [.ref (f4 1), .int 10, .int 0])), (f4 1, za g 1 16), (f6 0, .inr (4, [.ref (f6 1), .int 4, .int 0])), (f6 1, za g 1 16), (q7, za g 0 10)]) X hL hinit rfl rfl cs_6 (by decide) tw_1_147 rfl rfl rfl (tyX6_ok 3 (by decide)) (ref_fit rfl).1 (ref_fit rfl).2 (Nat.le_of_ble_eq_true rfl) rfl dX6_init_47 (fun H locs hL => ?_)
  refine lv_aload_n hx hb dX6_init_50 rfl (lv_at hl 0 rfl) ?_
  refine lv_bipush (v := (10 : Int32)) hx hb dX6_init_51 (by decide) ?_
  refine x_newI X hL (N := 10) (by decide) (by decide) (by decide) (Nat.le_of_ble_eq_true rfl) (Nat.le_of_ble_eq_true rfl) dX6_init_53 (fun q8 H hL => ?_)
  have hL : LW g A [(q0, .inr (6, [.ref (f2 0), .ref (f4 0), .ref (f6 0), .ref q7, .null, .int 0, .null])), (f2 0, .inr (4, [.ref (f2 1), .int 16, .int 0])), (f2 1, za g 1 16), (f4 0, .inr (4, [.ref (f4 1), .int 10, .int 0])), (f4 1, za g 1 16), (f6 0, .inr (4, [.ref (f6 1), .int 4, .int 0])), (f6 1, za g 1 16), (q7, za g 0 10), (q8, za g 0 10)] s.heap H _ := hL
  refine x_putF (ci := 6) (k := 4) (j := 0) (ws2 := [(q0, .inr (6, [.ref (f2 0), .ref (f4 0), .ref (f6 0), .ref q7, .ref q8, .int 0, .null])), (f2 0, .inr (4, [.ref (f2 1), .int 16, .int 0])), (f2 1, za g 1 16), (f4 0, .inr (4, [.ref (f4 1), .int 10, .int 0])), (f4 1, za g 1 16), (f6 0, .inr (4, [.ref (f6 1), .int 4, .int 0])), (f6 1, za g 1 16), (q7, za g 0 10), (q8, za g 0 10)]) X hL hinit rfl rfl cs_6 (by decide) tw_1_149 rfl rfl rfl (tyX6_ok 4 (by decide)) (ref_fit rfl).1 (ref_fit rfl).2 (Nat.le_of_ble_eq_true rfl) rfl dX6_init_55 (fun H locs hL => ?_)
  refine lv_aload_n hx hb dX6_init_58 rfl (lv_at hl 0 rfl) ?_
  refine lv_iconst (v := (0 : Int32)) hx hb dX6_init_59 (by decide) ?_
  refine x_put (ci := 6) (k := 5) (j := 0) (ws2 := [(q0, .inr (6, [.ref (f2 0), .ref (f4 0), .ref (f6 0), .ref q7, .ref q8, .int 0, .null])), (f2 0, .inr (4, [.ref (f2 1), .int 16, .int 0])), (f2 1, za g 1 16), (f4 0, .inr (4, [.ref (f4 1), .int 10, .int 0])), (f4 1, za g 1 16), (f6 0, .inr (4, [.ref (f6 1), .int 4, .int 0])), (f6 1, za g 1 16), (q7, za g 0 10), (q8, za g 0 10)]) X hL rfl rfl cs_6 (by decide) tw_1_151 rfl rfl (tyX6_ok 5 (by decide)) rfl rfl (Nat.le_of_ble_eq_true rfl) rfl dX6_init_60 (fun H locs hL => ?_)
  refine lv_aload_n hx hb dX6_init_63 rfl (lv_at hl 0 rfl) ?_
  refine x_new (ci := 0) (N := 6) X hL rfl cs_0 tyX0_ok tw_1_101 tw_1_102 tw_1_6 Dv0_ok rfl (Nat.le_of_ble_eq_true rfl) (Nat.le_of_ble_eq_true rfl) dX6_init_64 (fun q9 H hL => ?_)
  refine lv_dup hx hb dX6_init_67 rfl ?_
  refine x_ctor (ws := [(q0, .inr (6, [.ref (f2 0), .ref (f4 0), .ref (f6 0), .ref q7, .ref q8, .int 0, .null])), (f2 0, .inr (4, [.ref (f2 1), .int 16, .int 0])), (f2 1, za g 1 16), (f4 0, .inr (4, [.ref (f4 1), .int 10, .int 0])), (f4 1, za g 1 16), (f6 0, .inr (4, [.ref (f6 1), .int 4, .int 0])), (f6 1, za g 1 16), (q7, za g 0 10), (q8, za g 0 10)]) (a := q9) (ci := 0) (df := Dv0) (As := []) (rest := [.ref q9, .ref q0]) X hL k_X0 tw_1_103 tw_1_105 tw_1_6 ⟨by decide, by decide, by decide⟩ tw_1_104 rfl ⟨(Nat.le_of_ble_eq_true rfl), (Nat.le_of_ble_eq_true rfl)⟩ rfl rfl hl.1 (Nat.le_of_ble_eq_true rfl) dX6_init_68 ⟨(Nat.le_of_ble_eq_true rfl), (Nat.le_of_ble_eq_true rfl)⟩ (fun nb H locs hB hL2 => ?_)
  obtain ⟨f10, ef10, rfl⟩ := hB
  subst ef10
  have hL : LW g A [(q0, .inr (6, [.ref (f2 0), .ref (f4 0), .ref (f6 0), .ref q7, .ref q8, .int 0, .null])), (f2 0, .inr (4, [.ref (f2 1), .int 16, .int 0])), (f2 1, za g 1 16), (f4 0, .inr (4, [.ref (f4 1), .int 10, .int 0])), (f4 1, za g 1 16), (f6 0, .inr (4, [.ref (f6 1), .int 4, .int 0])), (f6 1, za g 1 16), (q7, za g 0 10), (q8, za g 0 10), (f10 0, .inr (0, [.ref (f10 1), .ref (f10 2), .ref (f10 3), .ref (f10 4), .int 0, .int 0])), (f10 1, za g 0 30), (f10 2, za g 0 30), (f10 3, za g 0 30), (f10 4, za g 0 30)] s.heap H _ := hL2
  refine x_putF (ci := 6) (k := 6) (j := 0) (ws2 := [(q0, .inr (6, [.ref (f2 0), .ref (f4 0), .ref (f6 0), .ref q7, .ref q8, .int 0, .ref (f10 0)])), (f2 0, .inr (4, [.ref (f2 1), .int 16, .int 0])), (f2 1, za g 1 16), (f4 0, .inr (4, [.ref (f4 1), .int 10, .int 0])), (f4 1, za g 1 16), (f6 0, .inr (4, [.ref (f6 1), .int 4, .int 0])), (f6 1, za g 1 16), (q7, za g 0 10), (q8, za g 0 10), (f10 0, .inr (0, [.ref (f10 1), .ref (f10 2), .ref (f10 3), .ref (f10 4), .int 0, .int 0])), (f10 1, za g 0 30), (f10 2, za g 0 30), (f10 3, za g 0 30), (f10 4, za g 0 30)]) X hL hinit rfl rfl cs_6 (by decide) tw_1_152 rfl rfl rfl (tyX6_ok 6 (by decide)) (ref_fit rfl).1 (ref_fit rfl).2 (Nat.le_of_ble_eq_true rfl) rfl dX6_init_71 (fun H locs hL => ?_)
  exact x_end X hL hA hr ⟨adL [q0, f2 0, f2 1, f4 0, f4 1, f6 0, f6 1, q7, q8, f10 0, f10 1, f10 2, f10 3, f10 4], rfl, rfl⟩ (Nat.le_of_ble_eq_true rfl) (Nat.le_of_ble_eq_true rfl) dX6_init_74
