/-! The law's own kindOf and operand: they catch. -/
theorem tw_cw1 : Cond.codeWith yL_kindOf cL_kindOf 4 (some .int) [(0, 9, 12, 13)] ∈ TT := zz_in (zz_c4 (List.mem_of_getElem? (i := 184) rfl)) rfl
theorem tw_cw2 : Cond.codeWith yL_operand cL_operand 5 (some .int) [(0, 10, 13, 13)] ∈ TT := zz_in (zz_c5 (List.mem_of_getElem? (i := 17) rfl)) rfl
def OutE (g : Gh) (f : Nat → Int64) : va_E := .inl (g.2.1 1, 1, .inr (.inl f))
theorem zlen (Z : Shp) (g : Gh) (w : Wd) : (zcells Z g w).length = Z.1 := by simp [zcells]
theorem zlast {Z : Shp} {g : Gh} {w : Wd} {x : Nat × va_E} : (zcells Z g w ++ [x])[Z.1]? = some x := by
  rw [List.getElem?_append_right (by rw [zlen]; exact Nat.le_refl _), zlen, Nat.sub_self]
  rfl
theorem zsetl {Z : Shp} {g : Gh} {w : Wd} {x y : Nat × va_E} : (zcells Z g w ++ [x]).set Z.1 y = zcells Z g w ++ [y] := by
  rw [List.set_append_right _ _ (by rw [zlen]; exact Nat.le_refl _), zlen, Nat.sub_self]
  rfl
theorem xl_ofW {l : Launch} {y : MethodName} {ws ws' : List Cond} {rm : Room} {Pc : Array Value → State → Prop} {Qc : Array Value → State → Outcome → State → Prop} {mc ms : Nat} {free : Addr → Prop} {cc : ByteArray} {maxL : Nat} {ret : Option FieldType} {hh : List (Nat × Nat × Nat × Nat)}
    (hy : plainName y.cls = true) (hw : ws = Cond.codeWith y cc maxL ret hh :: ws')
    (body : ∀ p e s m args below meth c s₁, BodyLoose p l y (headSpec ws rm) cc maxL ret e s m args below meth c s₁ → c.maxLocals = maxL → c.exceptionTable.toList = tableOf hh → Pc args s →
      W p l e (headSpec ws rm).room s m args below meth c s.heap [] 0 0 (MQ below Qc args s mc ms free) (entryFrame m args maxL)) : Met l y ws rm Pc Qc mc ms free := by
  refine MetFree.of_bodyS (code := cc) (maxLocals := maxL) (ret := ret) hy ?_ ?_
  · intro args s m h hn
    obtain ⟨m9, meth, c, hn9, h1, h2, h3, h4, -, h5, h6, -⟩ := Cond.codeWith_spec (atoms_spec (ws := ws) h _ (by rw [hw]; exact List.mem_cons_self))
    cases hn.symm.trans hn9
    exact ⟨meth, c, h1, h2, h3, h4, h5, h6⟩
  · intro p e s m args below meth c s₁ B hml hP _
    have hh0 : s₁.heap = s.heap := by rw [B.state]; rfl
    obtain ⟨t, a1, o, b1, b2, b3⟩ := body p e s m args below meth c s₁ B hml (vx_table (x := y) B (atoms_spec (ws := ws) B.pre _ (by rw [hw]; exact List.mem_cons_self))) hP s₁ hh0 (Stand.of_body B)
    exact ⟨t, o, a1, b1, b2, ⟨b3.1, b3.2⟩⟩
section XL
variable {p : Program} {l : Launch} {e : Env} {R : Room} {s : State} {m : MethodId} {args : Array Value} {below : List Frame} {meth : Method} {c : Code} {H : Heap} {locs : List Loc} {cells slots : Nat} {Q : State → Prop}
variable {cc : ByteArray} {nL : Nat} {own : String} {g : Gh} {pc : Nat} {ls : Array Slot} {rest st0 : List Value} {A : Nat → Prop} {W1 W2 : va_W} {w : Wd}
theorem x_pcX (X : AmC p s m args meth c cc nL own g) (hZ : ZSr A g s s.heap) (hE : XE A g s s.heap) (hL : LW g A (W1 ++ (zcells zC g w ++ W2)) s.heap H locs) (As : List Value) : FrameBlind (PXw g w As) ∧ ∀ U : State, U.heap = H → s.WarmedH U.vm → PXw g w As As.toArray U := by
  have h1 := x_pc X hZ rfl rfl (fun _ _ => rfl) hL As
  obtain ⟨m1, m2, m3, -⟩ := hL.mid (g2 := g) rfl
  refine ⟨fun a U g2 mk q => ?_, fun U hU hW => ⟨rfl, (h1.2 U hU hW).2, ?_⟩⟩
  · obtain ⟨q0, q1, q2⟩ := q
    exact ⟨q0, (h1.1 a U g2 mk ⟨q0, q1⟩).2, XE.same (u := U) (U := U.calling g2 mk a) (H := U.heap) rfl q2⟩
  · rw [hU]
    exact XE.to (XE.warm hW (hE.kept hL.2.2.1)) (fun _ _ => rfl) m3
theorem x_runX {b : Bool} {r : Int32} {a : Array Value} (hr : vx_Run p l e R s m args below meth c H locs cells slots 1 6 (F0 m pc ls st0) rest (QXw g w b r a) (XXw g w b) (zA zC g)) (hL : LW g A (W1 ++ (zcells zC g w ++ W2)) s.heap H locs)
    (kk : ∀ (H : Heap) (locs : List Loc), b = true → LW g A (W1 ++ (zcells zC g w ++ W2)) s.heap H locs → W p l e R s m args below meth c H locs (cells + 1) (slots + 6) Q (F0 m (pc + 3) ls (.int r :: rest)))
    (kx : ∀ (H : Heap) (locs : List Loc) (q : Nat) (ce : Cell), b = false → LW g A (W1 ++ (zcells zC g w ++ W2)) s.heap H locs → H[q]? = some ce → ce.vm = .none → s.vm.findClass IOB = some ce.cls → vx_W p l e R s m args below meth c H locs (cells + 1) (slots + 6) Q (F0 m pc ls rest) q) : W p l e R s m args below meth c H locs cells slots Q (F0 m pc ls st0) := by
  intro T hT X
  rcases hr T hT X with ⟨v, st₀, t, T', L, h0, X', hLo, e1, e2, ⟨hb, hv, hP, hz, hk⟩, st⟩ | ⟨q, st₀, t, T', L, E, ce, h0, X', hLo, e1, e2, ⟨hb, rfl, hP, hz, hk⟩, hce, hcv, hcl, st⟩
  · cases hv
    rw [h0] at hz hk
    rw [← e1] at hP hz hk
    obtain ⟨t2, a1, b1⟩ := kk T'.heap (locs ++ L) hb (hL.mid2 rfl hP hz hk hLo) T' rfl X'
    exact ⟨t2, st t2 a1, b1⟩
  · rw [h0] at hz hk
    rw [← e1] at hP hz hk hce
    obtain ⟨t2, a1, b1⟩ := kx T'.heap (locs ++ L) q ce hb (hL.mid2 rfl hP hz hk hLo) hce hcv hcl T' rfl X'
    exact ⟨t2, st.trans a1, b1⟩
end XL
/-- which cells the law's helper may change -/
def AL (g : Gh) (qo sz : Nat) : Nat → Prop := fun q => zA zC g q ∨ q = qo ∨ sz ≤ q
def RML : Room := { frames := 7, cells := 1, slots := 6, locals := 280 }
def PLw (g : Gh) (w : Wd) (qo sz : Nat) (f : Nat → Int64) (As : List Value) : Array Value → State → Prop := va_Pc As (fun U => U.heap.size = sz ∧ va_P g.1 vwCl (zcells zC g w ++ [(qo, OutE g f)]) U.heap ∧ va_D (AL g qo sz) (zcells zC g w ++ [(qo, OutE g f)]) ∧ va_K g.1 vwCl (ztys g) U ∧ (∀ w ∈ NL, va_Nw w U) ∧ ZSr (AL g qo sz) g U U.heap ∧ XE (AL g qo sz) g U U.heap)
def QLw (g : Gh) (w : Wd) (qo sz : Nat) (f : Nat → Int64) (b : Bool) (r : Int32) : Array Value → State → Outcome → State → Prop := fun _ st o t => o = .returned (some (.int (if b = true then 0 else 1))) ∧ va_P g.1 vwCl (zcells zC g w ++ [(qo, OutE g (if b = true then vp_updL f 0 r.toInt64 else f))]) t.heap ∧ va_F (AL g qo sz) st t
section XH
variable {l : Launch}
theorem xh_start {y : MethodName} {cc : ByteArray} {maxL : Nat} {hh : List (Nat × Nat × Nat × Nat)} {g : Gh} {w : Wd} {qo sz : Nat} {f : Nat → Int64} {b : Bool} {r : Int32} {As : List Value} (hy : plainName y.cls = true) (hlen : (lg_sl As).length ≤ maxL)
    (body : ∀ (p : Program) (e : Env) (s : State) (m : MethodId) (args : Array Value) (below : List Frame) (meth : Method) (c : Code) (H : Heap) (locs : List Loc) (ls : Array Slot), AmC p s m args meth c cc maxL y.cls g → c.exceptionTable.toList = tableOf hh → ZSr (AL g qo sz) g s s.heap → XE (AL g qo sz) g s s.heap → meth.sig.returnType = some .int → lv_has ls maxL (lv_args 0 As) → LW g (AL g qo sz) (zcells zC g w ++ [(qo, OutE g f)]) s.heap H locs →
      W p l e RML s m args below meth c H locs 0 0 (MQ below (QLw g w qo sz f b r) args s 1 6 (AL g qo sz)) (F0 m 0 ls [])) : Met l y (Cond.codeWith y cc maxL (some .int) hh :: TT) RML (PLw g w qo sz f As) (QLw g w qo sz f b r) 1 6 (AL g qo sz) := by
  refine xl_ofW (cc := cc) (maxL := maxL) (ret := some .int) (hh := hh) hy rfl ?_
  intro p e s m args below meth c s₁ B hml hex hv
  obtain ⟨rfl, hsz, hP, hD, hK, hN, hZ, hE⟩ := hv
  have hts := atoms_spec (ws := Cond.codeWith y cc maxL (some .int) hh :: TT) B.pre
  rw [lg_entry_eq]
  exact body p e s m _ below meth c _ _ _ ⟨B.exec, B.bytes, hml, findClass_of_methodNamed B.named, fun w hw => hts w (List.mem_cons_of_mem _ hw), hK, hN, B.notSynchronized⟩ hex hZ hE B.returns (lv_entry As hlen) ⟨hP, hD, va_S.rf, fun q h => Or.inr (Or.inr (by rw [← hsz]; exact h))⟩
end XH
theorem dL_kindOf_0 : decode cL_kindOf 0 = .ok (.aload_n 2, 1) := by decide +kernel
theorem dL_kindOf_1 : decode cL_kindOf 1 = .ok (.iconst 0, 1) := by decide +kernel
theorem dL_kindOf_2 : decode cL_kindOf 2 = .ok (.aload_n 0, 1) := by decide +kernel
theorem dL_kindOf_3 : decode cL_kindOf 3 = .ok (.iload_n 1, 1) := by decide +kernel
theorem dL_kindOf_4 : decode cL_kindOf 4 = .ok (.invokevirtual 7, 3) := by decide +kernel
theorem dL_kindOf_7 : decode cL_kindOf 7 = .ok (.i2l, 1) := by decide +kernel
theorem dL_kindOf_8 : decode cL_kindOf 8 = .ok (.lastore, 1) := by decide +kernel
theorem dL_kindOf_9 : decode cL_kindOf 9 = .ok (.goto 6, 3) := by decide +kernel
theorem dL_kindOf_12 : decode cL_kindOf 12 = .ok (.astore_n 3, 1) := by decide +kernel
theorem dL_kindOf_13 : decode cL_kindOf 13 = .ok (.iconst 1, 1) := by decide +kernel
theorem dL_kindOf_14 : decode cL_kindOf 14 = .ok (.ireturn, 1) := by decide +kernel
theorem dL_kindOf_15 : decode cL_kindOf 15 = .ok (.iconst 0, 1) := by decide +kernel
theorem dL_kindOf_16 : decode cL_kindOf 16 = .ok (.ireturn, 1) := by decide +kernel
section XK
variable {p : Program} {l : Launch} {e : Env} {s : State} {m : MethodId} {args : Array Value} {below : List Frame} {meth : Method} {c : Code} {H : Heap} {locs : List Loc}
variable {cc : ByteArray} {nL : Nat} {own : String} {g : Gh} {w : Wd} {pc : Nat} {ls : Array Slot} {qo sz : Nat} {f : Nat → Int64} {b : Bool} {r v : Int32}
theorem x_iret (X : AmC p s m args meth c cc nL own g) {f2 : Nat → Int64} (hL : LW g (AL g qo sz) (zcells zC g w ++ [(qo, OutE g f2)]) s.heap H locs) (hr : meth.sig.returnType = some .int) (hv : v = if b = true then 0 else 1) (hf : f2 = if b = true then vp_updL f 0 r.toInt64 else f) (hdg : decode cc pc = .ok (.ireturn, 1)) :
    W p l e RML s m args below meth c H locs 1 6 (MQ below (QLw g w qo sz f b r) args s 1 6 (AL g qo sz)) (F0 m pc ls [.int v]) := by
  subst hv
  subst hf
  exact W.iret X.1 X.2.1 hr (fun t ht hW => ⟨rfl, by rw [ht]; exact hL.1, hL.2.2.1.F ht⟩) hL.2.2.1.2.2 hdg X.2.2.2.2.2.2.2
end XK
set_option maxHeartbeats 4000000 in
set_option maxRecDepth 100000 in
theorem c_L_kindOf {l : Launch} (hl0 : l.stackTraces = false) {g : Gh} {w : Wd} {qo sz : Nat} {f : Nat → Int64} {v : Int32} {b : Bool} {r : Int32} (hF : f_X9_isConstraint w 0 v = some b) (hR : b = true → ∃ x, rdD zC w 0 1 6 = some x ∧ rdI zC w (zrf zC (zrf zC x 6) 0) v = some r) :
    Met l yL_kindOf (Cond.codeWith yL_kindOf cL_kindOf 4 (some .int) [(0, 9, 12, 13)] :: TT) RML (PLw g w qo sz f [.ref (g.2.2 0), .int v, .ref qo]) (QLw g w qo sz f b r) 1 6 (AL g qo sz) := by
  refine xh_start (by decide) (Nat.le_of_ble_eq_true rfl) ?_
  intro p e s m args below meth c H locs ls X hex hZ hE hr hl hL
  have hx := X.1
  have hb := X.2.1
  have hml := X.2.2.1
  have hown := X.2.2.2.1
  have ht := X.2.2.2.2.1
  have hl : lv_has ls 4 [(0, .ref (g.2.2 0)), (1, .int v), (2, .ref qo)] := hl
  refine lv_aload_n hx hb dL_kindOf_0 rfl (lv_at hl 2 rfl) ?_
  refine lv_iconst (v := (0 : Int32)) hx hb dL_kindOf_1 (by decide) ?_
  refine lv_aload_n hx hb dL_kindOf_2 rfl (lv_at hl 0 rfl) ?_
  refine lv_iload_n hx hb dL_kindOf_3 rfl (lv_at hl 1 rfl) ?_
  have hL1 : LW g (AL g qo sz) ([] ++ (zcells zC g w ++ [(qo, OutE g f)])) s.heap H locs := hL
  have hpc := x_pcX X hZ hE hL1 [.ref (g.2.2 0), .int v]
  obtain ⟨m0, -⟩ := hL1.mid (g2 := g) rfl
  have hrec : ∃ cell : Cell, H[g.2.2 0]? = some cell ∧ cell.vm.isStatics = false ∧ s.vm.findClass RX9 = some cell.cls := va_recv X.2.2.2.2.2.1 m0 (ci := 9) (q := (RX9, TX9, 12)) rfl (q0 := 0) (by have he := zgetc zC g w (k := 0) (c := 9) rfl (by decide); rw [zcl_obj zC g w 0 (by decide)] at he; exact he)
  refine x_runX (W1 := []) (vx_runV (As := [.int v]) (rest := [.int 0, .ref qo]) (C := RX9) ⟨hx, hb, hml, hown, ht⟩ (c_X9_kindOf hl0 hF hR) ⟨callB_of 1 ht (zz_good tw_4_189) rfl rfl rfl (ht _ tw_1_1) (ht _ tw_4_186) ⟨by decide, by decide, by decide +kernel⟩ ⟨by decide, by decide⟩, ht _ tw_4_187, ht _ tw_4_188⟩ ⟨hpc.1, hrec, hpc.2⟩ rfl rfl hl.1 rfl (lv_room (Nat.le_of_ble_eq_true rfl)) dL_kindOf_4 ⟨by decide, by decide⟩) hL1 (fun H locs hbt hL2 => ?_) (fun H locs q ce hbf hL2 hce hcv hcl => ?_)
  · have hL3 : LW g (AL g qo sz) (zcells zC g w ++ [(qo, OutE g f)]) s.heap H locs := hL2
    obtain ⟨hP, hD, hS, hA⟩ := hL3
    refine lv_i2l (v := r.toInt64) hx hb dL_kindOf_7 rfl ?_
    refine va_last hx hb X.2.2.2.2.2.1 hP hD hS zC.1 1 zlast rfl (vp_in_mk2 (by decide) (by decide)) dL_kindOf_8 (fun H1 locs1 k1 k2 k3 => ?_)
    rw [zsetl] at k1 k2
    refine lv_goto (tgt := 15) hx hb dL_kindOf_9 (by decide) ?_
    refine lv_iconst (v := (0 : Int32)) hx hb dL_kindOf_15 (by decide) ?_
    exact x_iret (f2 := vp_updL f 0 r.toInt64) X ⟨k1, k2, k3, hA⟩ hr (by rw [if_pos hbt]) (by rw [if_pos hbt]) dL_kindOf_16
  · refine vx_catch (own := RL) (name := IOB) (E := IOB) hown [] { startPc := 0, endPc := 9, handlerPc := 12, catchType := 13 } [] hex (fun z hz => nomatch hz) (by decide) (by decide) (ht _ tw_4_185) (va_Nw.use rfl (hE.1 (Cond.castable IOB IOB) (by decide +kernel))) hce hcv hcl ?_
    refine lv_astore_n (lv' := [(3, .ref q), (0, .ref (g.2.2 0)), (1, .int v), (2, .ref qo)]) hx hb dL_kindOf_12 rfl hl (by decide) rfl (fun ls hl => ?_)
    refine lv_iconst (v := (1 : Int32)) hx hb dL_kindOf_13 (by decide) ?_
    exact x_iret (f2 := f) X hL2 hr (by rw [if_neg (by rw [hbf]; decide)]) (by rw [if_neg (by rw [hbf]; decide)]) dL_kindOf_14
theorem dL_operand_0 : decode cL_operand 0 = .ok (.aload_n 3, 1) := by decide +kernel
theorem dL_operand_1 : decode cL_operand 1 = .ok (.iconst 0, 1) := by decide +kernel
theorem dL_operand_2 : decode cL_operand 2 = .ok (.aload_n 0, 1) := by decide +kernel
theorem dL_operand_3 : decode cL_operand 3 = .ok (.iload_n 1, 1) := by decide +kernel
theorem dL_operand_4 : decode cL_operand 4 = .ok (.iload_n 2, 1) := by decide +kernel
theorem dL_operand_5 : decode cL_operand 5 = .ok (.invokevirtual 15, 3) := by decide +kernel
theorem dL_operand_8 : decode cL_operand 8 = .ok (.i2l, 1) := by decide +kernel
theorem dL_operand_9 : decode cL_operand 9 = .ok (.lastore, 1) := by decide +kernel
theorem dL_operand_10 : decode cL_operand 10 = .ok (.goto 7, 3) := by decide +kernel
theorem dL_operand_13 : decode cL_operand 13 = .ok (.astore 4, 2) := by decide +kernel
theorem dL_operand_15 : decode cL_operand 15 = .ok (.iconst 1, 1) := by decide +kernel
theorem dL_operand_16 : decode cL_operand 16 = .ok (.ireturn, 1) := by decide +kernel
theorem dL_operand_17 : decode cL_operand 17 = .ok (.iconst 0, 1) := by decide +kernel
theorem dL_operand_18 : decode cL_operand 18 = .ok (.ireturn, 1) := by decide +kernel
set_option maxHeartbeats 4000000 in
set_option maxRecDepth 100000 in
theorem c_L_operand {l : Launch} (hl0 : l.stackTraces = false) {g : Gh} {w : Wd} {qo sz : Nat} {f : Nat → Int64} {v u : Int32} {b1 b : Bool} {r : Int32} (hF : f_X9_isConstraint w 0 v = some b1) (hb1 : b = (b1 && decide (¬ u < 0) && decide (u < 3))) (hR : b = true → ∃ x, rdD zC w 0 1 6 = some x ∧ f_X0_operandAt w (zrf zC x 6) v u = some r) :
    Met l yL_operand (Cond.codeWith yL_operand cL_operand 5 (some .int) [(0, 10, 13, 13)] :: TT) RML (PLw g w qo sz f [.ref (g.2.2 0), .int v, .int u, .ref qo]) (QLw g w qo sz f b r) 1 6 (AL g qo sz) := by
  refine xh_start (by decide) (Nat.le_of_ble_eq_true rfl) ?_
  intro p e s m args below meth c H locs ls X hex hZ hE hr hl hL
  have hx := X.1
  have hb := X.2.1
  have hml := X.2.2.1
  have hown := X.2.2.2.1
  have ht := X.2.2.2.2.1
  have hl : lv_has ls 5 [(0, .ref (g.2.2 0)), (1, .int v), (2, .int u), (3, .ref qo)] := hl
  refine lv_aload_n hx hb dL_operand_0 rfl (lv_at hl 3 rfl) ?_
  refine lv_iconst (v := (0 : Int32)) hx hb dL_operand_1 (by decide) ?_
  refine lv_aload_n hx hb dL_operand_2 rfl (lv_at hl 0 rfl) ?_
  refine lv_iload_n hx hb dL_operand_3 rfl (lv_at hl 1 rfl) ?_
  refine lv_iload_n hx hb dL_operand_4 rfl (lv_at hl 2 rfl) ?_
  have hL1 : LW g (AL g qo sz) ([] ++ (zcells zC g w ++ [(qo, OutE g f)])) s.heap H locs := hL
  have hpc := x_pcX X hZ hE hL1 [.ref (g.2.2 0), .int v, .int u]
  obtain ⟨m0, -⟩ := hL1.mid (g2 := g) rfl
  have hrec : ∃ cell : Cell, H[g.2.2 0]? = some cell ∧ cell.vm.isStatics = false ∧ s.vm.findClass RX9 = some cell.cls := va_recv X.2.2.2.2.2.1 m0 (ci := 9) (q := (RX9, TX9, 12)) rfl (q0 := 0) (by have he := zgetc zC g w (k := 0) (c := 9) rfl (by decide); rw [zcl_obj zC g w 0 (by decide)] at he; exact he)
  refine x_runX (W1 := []) (vx_runV (As := [.int v, .int u]) (rest := [.int 0, .ref qo]) (C := RX9) ⟨hx, hb, hml, hown, ht⟩ (c_X9_operand hl0 hF hb1 hR) ⟨callB_of 2 ht (zz_good tw_5_21) rfl rfl rfl (ht _ tw_1_1) (ht _ tw_5_18) ⟨by decide, by decide, by decide +kernel⟩ ⟨by decide, by decide⟩, ht _ tw_5_19, ht _ tw_5_20⟩ ⟨hpc.1, hrec, hpc.2⟩ rfl rfl hl.1 rfl (lv_room (Nat.le_of_ble_eq_true rfl)) dL_operand_5 ⟨by decide, by decide⟩) hL1 (fun H locs hbt hL2 => ?_) (fun H locs q ce hbf hL2 hce hcv hcl => ?_)
  · have hL3 : LW g (AL g qo sz) (zcells zC g w ++ [(qo, OutE g f)]) s.heap H locs := hL2
    obtain ⟨hP, hD, hS, hA⟩ := hL3
    refine lv_i2l (v := r.toInt64) hx hb dL_operand_8 rfl ?_
    refine va_last hx hb X.2.2.2.2.2.1 hP hD hS zC.1 1 zlast rfl (vp_in_mk2 (by decide) (by decide)) dL_operand_9 (fun H1 locs1 k1 k2 k3 => ?_)
    rw [zsetl] at k1 k2
    refine lv_goto (tgt := 17) hx hb dL_operand_10 (by decide) ?_
    refine lv_iconst (v := (0 : Int32)) hx hb dL_operand_17 (by decide) ?_
    exact x_iret (f2 := vp_updL f 0 r.toInt64) X ⟨k1, k2, k3, hA⟩ hr (by rw [if_pos hbt]) (by rw [if_pos hbt]) dL_operand_18
  · refine vx_catch (own := RL) (name := IOB) (E := IOB) hown [] { startPc := 0, endPc := 10, handlerPc := 13, catchType := 13 } [] hex (fun z hz => nomatch hz) (by decide) (by decide) (ht _ tw_4_185) (va_Nw.use rfl (hE.1 (Cond.castable IOB IOB) (by decide +kernel))) hce hcv hcl ?_
    refine lv_astore (lv' := [(4, .ref q), (0, .ref (g.2.2 0)), (1, .int v), (2, .int u), (3, .ref qo)]) hx hb dL_operand_13 hl (by decide) rfl (fun ls hl => ?_)
    refine lv_iconst (v := (1 : Int32)) hx hb dL_operand_15 (by decide) ?_
    exact x_iret (f2 := f) X hL2 hr (by rw [if_neg (by rw [hbf]; decide)]) (by rw [if_neg (by rw [hbf]; decide)]) dL_operand_16
