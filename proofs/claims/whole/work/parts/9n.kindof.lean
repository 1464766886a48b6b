/-! kindOf and operand of the class: they return or throw. -/
def RMx : Room := { frames := 6, cells := 1, slots := 6, locals := 240 }
def PXw (g : Gh) (w : Wd) (As : List Value) : Array Value → State → Prop := va_Pc As (fun U => PB zC g w U ∧ XE (zA zC g) g U U.heap)
def QXw (g : Gh) (w : Wd) (b : Bool) (r : Int32) : Array Value → State → Outcome → State → Prop := fun a st o t => b = true ∧ Qw zC g w (some (.int r)) a st o t
def XXw (g : Gh) (w : Wd) (b : Bool) : String → State → State → Prop := fun E st t => b = false ∧ E = IOB ∧ va_P g.1 vwCl (zcells zC g w) t.heap ∧ va_F (zA zC g) st t
section XM
variable {l : Launch}
theorem xm_start {y : MethodName} {cc : ByteArray} {maxL : Nat} {g : Gh} {w : Wd} {b : Bool} {r : Int32} {As : List Value} (hy : plainName y.cls = true) (hlen : (lg_sl As).length ≤ maxL)
    (body : ∀ (p : Program) (e : Env) (s : State) (m : MethodId) (args : Array Value) (below : List Frame) (meth : Method) (c : Code) (H : Heap) (locs : List Loc) (ls : Array Slot), Amb p s m args meth c cc maxL y.cls zC g → (∀ x ∈ c.exceptionTable.toList, False) → XE (zA zC g) g s s.heap → meth.sig.returnType = some .int → lv_has ls maxL (lv_args 0 As) → HW zC g w s.heap H locs →
      W p l e RMx s m args below meth c H locs 0 0 (vx_MQ below (QXw g w b r) (XXw g w b) args s 1 6 (zA zC g)) (F0 m 0 ls [])) : vx_Met l y (Cond.code y cc maxL (some .int) :: TT) RMx (PXw g w As) (QXw g w b r) (XXw g w b) 1 6 (zA zC g) := by
  refine vx_ofW (cc := cc) (maxL := maxL) (ret := some .int) hy rfl ?_
  intro p e s m args below meth c s₁ B hml hex hv
  obtain ⟨rfl, ⟨hP, hD, hK, hN, hZ⟩, hE⟩ := hv
  have hts := atoms_spec (ws := Cond.code y cc maxL (some .int) :: TT) B.pre
  rw [lg_entry_eq]
  exact body p e s m _ below meth c _ _ _ ⟨B.exec, B.bytes, hml, findClass_of_methodNamed B.named, fun w hw => hts w (List.mem_cons_of_mem _ hw), hK, hN, hZ, B.notSynchronized⟩ hex hE B.returns (lv_entry As hlen) ⟨hP, hD, va_S.rf⟩
end XM
section XR
variable {p : Program} {l : Launch} {e : Env} {s : State} {m : MethodId} {args : Array Value} {below : List Frame} {meth : Method} {c : Code} {H : Heap} {locs : List Loc}
variable {cc : ByteArray} {nL : Nat} {g : Gh} {w : Wd} {pc : Nat} {ls : Array Slot}
theorem x_throw (hl : l.stackTraces = false) (X : Amb p s m args meth c cc nL RX9 zC g) (hex : ∀ x ∈ c.exceptionTable.toList, False) (hE : XE (zA zC g) g s s.heap) (hH : HW zC g w s.heap H locs) {b : Bool} {r : Int32} (hb0 : b = false) (hsz : ls.size = nL) {is : Nat} {text : String} {sa : Nat} (hstr : vk_R RX9 is text sa s)
    (d0 : decode cc pc = .ok (.new 126, 3)) (d3 : decode cc (pc + 3) = .ok (.dup, 1)) (d4 : decode cc (pc + 4) = .ok (.ldc is, 2)) (d6 : decode cc (pc + 6) = .ok (.invokespecial 130, 3)) (d9 : decode cc (pc + 9) = .ok (.athrow, 1)) :
    W p l e RMx s m args below meth c H locs 0 0 (vx_MQ below (QXw g w b r) (XXw g w b) args s 1 6 (zA zC g)) (F0 m pc ls []) := by
  obtain ⟨hx, hb, hml, hown, ht, hK, hN, hZ, hlk⟩ := X
  obtain ⟨e1, e2, e3, e4⟩ := hE
  refine vx_throwS (A := zA zC g) (names := NMS) (cls := IOB) hx hb hl hown (by decide +kernel) (by decide +kernel) (ht _ tw_4_190) (ht _ tw_1_22) hstr (x_hat ht e1) x_hgood e3 e4 hH.2.2 (hsz.trans hml.symm) d0 d3 d4 d6 d9 (fun x hx => (hex x hx).elim) (by decide) (by decide) (by decide) (by decide) hlk ?_ hH.2.2.2.2 (by decide) (by decide)
  intro t hvm hz hq
  refine ⟨hb0, rfl, hH.1.kept (fun k q hk => hq q.1 ((hH.1 k q hk).lt)), Nat.le_trans hH.2.2.1 hz, fun q h1 h2 => ?_⟩
  rw [hq q (Nat.lt_of_lt_of_le h1 hH.2.2.1)]
  exact hH.2.2.2.1 q h1 h2
theorem x_ret (X : Amb p s m args meth c cc nL RX9 zC g) (hH : HW zC g w s.heap H locs) (hr : meth.sig.returnType = some .int) {b : Bool} {r : Int32} (hb0 : b = true) (hdg : decode cc pc = .ok (.ireturn, 1)) :
    W p l e RMx s m args below meth c H locs 0 0 (vx_MQ below (QXw g w b r) (XXw g w b) args s 1 6 (zA zC g)) (F0 m pc ls [.int r]) := by
  refine vx_ret (W.widen (k := 1) (n := 6) (by decide) (by decide) ?_)
  exact W.iret X.1 X.2.1 hr (fun t ht hW => ⟨hb0, rfl, by rw [ht]; exact hH.1, hH.2.2.F ht⟩) hH.2.2.2.2 hdg X.2.2.2.2.2.2.2.2
end XR
theorem dX9_kindOf_0 : decode cX9_kindOf 0 = .ok (.aload_n 0, 1) := by decide +kernel
theorem dX9_kindOf_1 : decode cX9_kindOf 1 = .ok (.iload_n 1, 1) := by decide +kernel
theorem dX9_kindOf_2 : decode cX9_kindOf 2 = .ok (.invokevirtual 122, 3) := by decide +kernel
theorem dX9_kindOf_5 : decode cX9_kindOf 5 = .ok (.ifCond .ne 13, 3) := by decide +kernel
theorem dX9_kindOf_8 : decode cX9_kindOf 8 = .ok (.new 126, 3) := by decide +kernel
theorem dX9_kindOf_11 : decode cX9_kindOf 11 = .ok (.dup, 1) := by decide +kernel
theorem dX9_kindOf_12 : decode cX9_kindOf 12 = .ok (.ldc 128, 2) := by decide +kernel
theorem dX9_kindOf_14 : decode cX9_kindOf 14 = .ok (.invokespecial 130, 3) := by decide +kernel
theorem dX9_kindOf_17 : decode cX9_kindOf 17 = .ok (.athrow, 1) := by decide +kernel
theorem dX9_kindOf_18 : decode cX9_kindOf 18 = .ok (.aload_n 0, 1) := by decide +kernel
theorem dX9_kindOf_19 : decode cX9_kindOf 19 = .ok (.getfield 19, 3) := by decide +kernel
theorem dX9_kindOf_22 : decode cX9_kindOf 22 = .ok (.getfield 96, 3) := by decide +kernel
theorem dX9_kindOf_25 : decode cX9_kindOf 25 = .ok (.getfield 133, 3) := by decide +kernel
theorem dX9_kindOf_28 : decode cX9_kindOf 28 = .ok (.iload_n 1, 1) := by decide +kernel
theorem dX9_kindOf_29 : decode cX9_kindOf 29 = .ok (.iaload, 1) := by decide +kernel
theorem dX9_kindOf_30 : decode cX9_kindOf 30 = .ok (.ireturn, 1) := by decide +kernel
set_option maxHeartbeats 4000000 in
set_option maxRecDepth 100000 in
theorem c_X9_kindOf {l : Launch} (hl0 : l.stackTraces = false) {g : Gh} {w : Wd} {v : Int32} {b : Bool} {r : Int32} (hF : f_X9_isConstraint w 0 v = some b) (hR : b = true → ∃ x, rdD zC w 0 1 6 = some x ∧ rdI zC w (zrf zC (zrf zC x 6) 0) v = some r) :
    vx_Met l yX9_kindOf (Cond.code yX9_kindOf cX9_kindOf 2 (some .int) :: TT) RMx (PXw g w [.ref (g.2.2 0), .int v]) (QXw g w b r) (XXw g w b) 1 6 (zA zC g) := by
  refine xm_start (by decide) (Nat.le_of_ble_eq_true rfl) ?_
  intro p e s m args below meth c H locs ls X hex hE hr hl hH
  have hx := X.1
  have hb := X.2.1
  have hml := X.2.2.1
  have hown := X.2.2.2.1
  have ht := X.2.2.2.2.1
  have hl : lv_has ls 2 [(0, .ref (g.2.2 0)), (1, .int v)] := hl
  refine lv_aload_n hx hb dX9_kindOf_0 rfl (lv_at hl 0 rfl) ?_
  refine lv_iload_n hx hb dX9_kindOf_1 rfl (lv_at hl 1 rfl) ?_
  refine w_callV (As := [.int v]) (k := 0) (rest := []) (st1 := [.int (bI b)]) X hH (c_X9_isConstraint (l := l) (g := g) (w := w) (k0 := 0) (v_constraint := v) hF rfl) (Or.inl tw_4_49) ms_X9_isConstraint im_X9_isConstraint rfl cn_9 ⟨by decide, by decide⟩ rfl rfl hl.1 (Nat.le_of_ble_eq_true rfl) dX9_kindOf_2 ⟨by decide, by decide⟩ rfl (fun H locs hH => ?_)
  refine w_b_t (tgt := 18) hx hb dX9_kindOf_5 (by decide) (fun c2 => ?_) (fun c2 => ?_)
  · obtain ⟨x, h5, h6⟩ := hR c2
    refine lv_aload_n hx hb dX9_kindOf_18 rfl (lv_at hl 0 rfl) ?_
    refine w_getd X hH h5 rfl fs_9_1 lk_9_19 dX9_kindOf_19 (fun q5 => ?_)
    refine w_getr X hH q5 fs_6_6 lk_9_96 dX9_kindOf_22 ?_
    refine w_getr X hH (rt_C_6_6 q5) fs_0_0 lk_9_133 dX9_kindOf_25 ?_
    refine lv_iload_n hx hb dX9_kindOf_28 rfl (lv_at hl 1 rfl) ?_
    refine w_iald X hH h6 (rt_C_0_0 (rt_C_6_6 q5)) dX9_kindOf_29 ?_
    exact x_ret X hH hr c2 dX9_kindOf_30
  · exact x_throw hl0 X hex hE hH (by cases b; rfl; exact absurd rfl c2) hl.1 hE.2.1.1 dX9_kindOf_8 dX9_kindOf_11 dX9_kindOf_12 dX9_kindOf_14 dX9_kindOf_17
theorem dX9_operand_0 : decode cX9_operand 0 = .ok (.aload_n 0, 1) := by decide +kernel
theorem dX9_operand_1 : decode cX9_operand 1 = .ok (.iload_n 1, 1) := by decide +kernel
theorem dX9_operand_2 : decode cX9_operand 2 = .ok (.invokevirtual 122, 3) := by decide +kernel
theorem dX9_operand_5 : decode cX9_operand 5 = .ok (.ifCond .ne 13, 3) := by decide +kernel
theorem dX9_operand_8 : decode cX9_operand 8 = .ok (.new 126, 3) := by decide +kernel
theorem dX9_operand_11 : decode cX9_operand 11 = .ok (.dup, 1) := by decide +kernel
theorem dX9_operand_12 : decode cX9_operand 12 = .ok (.ldc 128, 2) := by decide +kernel
theorem dX9_operand_14 : decode cX9_operand 14 = .ok (.invokespecial 130, 3) := by decide +kernel
theorem dX9_operand_17 : decode cX9_operand 17 = .ok (.athrow, 1) := by decide +kernel
theorem dX9_operand_18 : decode cX9_operand 18 = .ok (.iload_n 2, 1) := by decide +kernel
theorem dX9_operand_19 : decode cX9_operand 19 = .ok (.ifCond .lt 8, 3) := by decide +kernel
theorem dX9_operand_22 : decode cX9_operand 22 = .ok (.iload_n 2, 1) := by decide +kernel
theorem dX9_operand_23 : decode cX9_operand 23 = .ok (.iconst 3, 1) := by decide +kernel
theorem dX9_operand_24 : decode cX9_operand 24 = .ok (.if_icmp .lt 13, 3) := by decide +kernel
theorem dX9_operand_27 : decode cX9_operand 27 = .ok (.new 126, 3) := by decide +kernel
theorem dX9_operand_30 : decode cX9_operand 30 = .ok (.dup, 1) := by decide +kernel
theorem dX9_operand_31 : decode cX9_operand 31 = .ok (.ldc 137, 2) := by decide +kernel
theorem dX9_operand_33 : decode cX9_operand 33 = .ok (.invokespecial 130, 3) := by decide +kernel
theorem dX9_operand_36 : decode cX9_operand 36 = .ok (.athrow, 1) := by decide +kernel
theorem dX9_operand_37 : decode cX9_operand 37 = .ok (.aload_n 0, 1) := by decide +kernel
theorem dX9_operand_38 : decode cX9_operand 38 = .ok (.getfield 19, 3) := by decide +kernel
theorem dX9_operand_41 : decode cX9_operand 41 = .ok (.getfield 96, 3) := by decide +kernel
theorem dX9_operand_44 : decode cX9_operand 44 = .ok (.iload_n 1, 1) := by decide +kernel
theorem dX9_operand_45 : decode cX9_operand 45 = .ok (.iload_n 2, 1) := by decide +kernel
theorem dX9_operand_46 : decode cX9_operand 46 = .ok (.invokevirtual 139, 3) := by decide +kernel
theorem dX9_operand_49 : decode cX9_operand 49 = .ok (.ireturn, 1) := by decide +kernel
set_option maxHeartbeats 4000000 in
set_option maxRecDepth 100000 in
theorem c_X9_operand {l : Launch} (hl0 : l.stackTraces = false) {g : Gh} {w : Wd} {v u : Int32} {b1 b : Bool} {r : Int32} (hF : f_X9_isConstraint w 0 v = some b1) (hb1 : b = (b1 && decide (¬ u < 0) && decide (u < 3))) (hR : b = true → ∃ x, rdD zC w 0 1 6 = some x ∧ f_X0_operandAt w (zrf zC x 6) v u = some r) :
    vx_Met l yX9_operand (Cond.code yX9_operand cX9_operand 3 (some .int) :: TT) RMx (PXw g w [.ref (g.2.2 0), .int v, .int u]) (QXw g w b r) (XXw g w b) 1 6 (zA zC g) := by
  refine xm_start (by decide) (Nat.le_of_ble_eq_true rfl) ?_
  intro p e s m args below meth c H locs ls X hex hE hr hl hH
  have hx := X.1
  have hb := X.2.1
  have hml := X.2.2.1
  have hown := X.2.2.2.1
  have ht := X.2.2.2.2.1
  have hl : lv_has ls 3 [(0, .ref (g.2.2 0)), (1, .int v), (2, .int u)] := hl
  refine lv_aload_n hx hb dX9_operand_0 rfl (lv_at hl 0 rfl) ?_
  refine lv_iload_n hx hb dX9_operand_1 rfl (lv_at hl 1 rfl) ?_
  refine w_callV (As := [.int v]) (k := 0) (rest := []) (st1 := [.int (bI b1)]) X hH (c_X9_isConstraint (l := l) (g := g) (w := w) (k0 := 0) (v_constraint := v) hF rfl) (Or.inl tw_4_49) ms_X9_isConstraint im_X9_isConstraint rfl cn_9 ⟨by decide, by decide⟩ rfl rfl hl.1 (Nat.le_of_ble_eq_true rfl) dX9_operand_2 ⟨by decide, by decide⟩ rfl (fun H locs hH => ?_)
  refine w_b_t (tgt := 18) hx hb dX9_operand_5 (by decide) (fun c2 => ?_) (fun c2 => ?_)
  · have bad : b = false → W p l e RMx s m args below meth c H locs 0 0 (vx_MQ below (QXw g w b r) (XXw g w b) args s 1 6 (zA zC g)) (F0 m 27 ls []) := fun hb0 =>
      x_throw hl0 X hex hE hH hb0 hl.1 hE.2.1.2 dX9_operand_27 dX9_operand_30 dX9_operand_31 dX9_operand_33 dX9_operand_36
    refine lv_iload_n hx hb dX9_operand_18 rfl (lv_at hl 2 rfl) ?_
    refine w_zlt_t (tgt := 27) hx hb dX9_operand_19 (by decide) (fun c3 => ?_) (fun c3 => ?_)
    · exact bad (by rw [hb1, decide_eq_false (fun h => h c3), Bool.and_false, Bool.false_and])
    · refine lv_iload_n hx hb dX9_operand_22 rfl (lv_at hl 2 rfl) ?_
      refine lv_iconst (v := (3 : Int32)) hx hb dX9_operand_23 (by decide) ?_
      refine w_ilt_t (tgt := 37) hx hb dX9_operand_24 (by decide) (fun c4 => ?_) (fun c4 => ?_)
      · have hbt : b = true := by rw [hb1, c2, decide_eq_true c3, decide_eq_true c4]; rfl
        obtain ⟨x, h5, h6⟩ := hR hbt
        refine lv_aload_n hx hb dX9_operand_37 rfl (lv_at hl 0 rfl) ?_
        refine w_getd X hH h5 rfl fs_9_1 lk_9_19 dX9_operand_38 (fun q5 => ?_)
        refine w_getr X hH q5 fs_6_6 lk_9_96 dX9_operand_41 ?_
        refine lv_iload_n hx hb dX9_operand_44 rfl (lv_at hl 1 rfl) ?_
        refine lv_iload_n hx hb dX9_operand_45 rfl (lv_at hl 2 rfl) ?_
        refine w_callV (As := [.int v, .int u]) (k := zrf zC x 6) (rest := []) (st1 := [.int r]) X hH (c_X0_operandAt (l := l) (g := g) (w := w) (k0 := zrf zC x 6) (v_constraint := v) (v_position := u) h6 (rt_C_6_6 q5)) (Or.inr ⟨_, tw_5_23⟩) ms_X0_operandAt im_X0_operandAt (rt_C_6_6 q5) cn_0 ⟨by decide, by decide⟩ rfl rfl hl.1 (Nat.le_of_ble_eq_true rfl) dX9_operand_46 ⟨by decide, by decide⟩ rfl (fun H locs hH => ?_)
        exact x_ret X hH hr hbt dX9_operand_49
      · exact bad (by rw [hb1, decide_eq_false c4, Bool.and_false])
  · exact x_throw hl0 X hex hE hH (by rw [hb1]; cases b1; rfl; exact absurd rfl c2) hl.1 hE.2.1.1 dX9_operand_8 dX9_operand_11 dX9_operand_12 dX9_operand_14 dX9_operand_17
