/-! From the entry to the loop. -/
theorem ZSr.narrow {A B : Nat → Prop} {g : Gh} {U : State} {H : Heap} (h : ZSr A g U H) (hA : ∀ q, B q → A q) : ZSr B g U H := by
  obtain ⟨⟨h1, h2⟩, ⟨h3, h4⟩, h5, h6, h7, h8⟩ := h
  exact ⟨⟨h1.narrow hA, h2.narrow hA⟩, ⟨h3.narrow hA, h4.narrow hA⟩, h5.narrow hA, h6, h7.narrow hA, h8.narrow hA⟩
section CE
variable {p : Program} {l : Launch} {e : Env} {R : Room} {s : State} {m : MethodId} {args : Array Value} {below : List Frame} {meth : Method} {c : Code} {H : Heap} {locs : List Loc} {cells slots : Nat} {Q : State → Prop}
variable {cc : ByteArray} {nL : Nat} {own : String} {g : Gh} {pc : Nat} {ls : Array Slot} {rest : List Value} {A : Nat → Prop} {ws : va_W}
theorem x_ctorE (X : AmC p s m args meth c cc nL own g) {E : Nat → Nat → State → Prop} {a ci d mc ms2 n idx maxL : Nat} {df : List Value} {As st0 : List Value} {y : MethodName} {bytes : ByteArray} {B : Nat → va_W → Prop} (hL : LW g A (ws ++ [(a, .inr (ci, df))]) s.heap H locs) (hM : CtME E l g y bytes maxL d mc ms2 ci df As B) (hE : ∀ U : State, U.heap = H → s.WarmedH U.vm → E a H.size U) (hEb : ∀ (a' : Array Value) (U : State) (g2 : JFrame) (mk : MethodId), E a H.size U → E a H.size (U.calling g2 mk a')) (lk : Cond.methodLink own idx y ∈ TT) (m1 : Cond.code y bytes maxL none ∈ TT) (m2 : Cond.initialized y.cls ∈ TT) (m3 : y.cls ≠ "java/lang/invoke/MethodHandle" ∧ y.cls ≠ "java/lang/invoke/VarHandle" ∧ (parseMethodDescriptor y.desc).map (fun d => d.parameters.length) = some n) (im : Cond.instanceMethod y ∈ TT) (hy : y.name = "<init>")
    (hR : d + 1 ≤ R.frames ∧ 8 + (maxL + 11) + 40 * d ≤ R.locals) (hn : As.length = n) (hst : st0 = As.reverse ++ .ref a :: rest) (hsz : ls.size = nL) (hW : (rest.map fun v => v.category).sum ≤ 8) (hdg : decode cc pc = .ok (.invokespecial idx, 3)) (hf : cells + mc ≤ R.cells ∧ slots + ms2 ≤ R.slots)
    (kk : ∀ (nb : va_W) (H1 : Heap) (locs1 : List Loc), B a nb → LW g A (ws ++ nb) s.heap H1 locs1 → W p l e R s m args below meth c H1 locs1 (cells + mc) (slots + ms2) Q (F0 m (pc + 3) ls rest)) : W p l e R s m args below meth c H locs cells slots Q (F0 m pc ls st0) := by
  obtain ⟨hx, hb, hml, hown, ht, hK, hN, hlk⟩ := X
  have hL' := hL
  obtain ⟨hP, hD, hS, hA⟩ := hL'
  have hlast : (ws ++ [(a, (.inr (ci, df) : va_E))])[ws.length]? = some (a, .inr (ci, df)) := by rw [List.getElem?_append_right (Nat.le_refl _), Nat.sub_self]; rfl
  have hPa : va_P g.1 vwCl [(a, .inr (ci, df))] H := fun k q hk => by
    have hk0 : k = 0 := by have := (List.getElem?_eq_some_iff.mp hk).1; simp at this; exact this
    subst hk0
    cases hk
    exact hP _ _ hlast
  have hF : ∀ q, va_A [(a, (.inr (ci, df) : va_E))] H.size q → A q := fun q z => by
    rcases z with ⟨k2, e2, h2⟩ | h2
    · have hk2 : k2 = 0 := by have := (List.getElem?_eq_some_iff.mp h2).1; simp at this; exact this
      subst hk2
      cases h2
      exact hD.2 ws.length _ hlast
    · exact hA q (Nat.le_trans hS.1 h2)
  refine va_callv (va_runI (As := As) (rest := rest) ⟨hx, hb, hml, hown, ht⟩ (hM a H.size) ⟨callB_of n ht (zz_good m1) rfl rfl rfl (ht _ m2) (ht _ lk) m3 hR, hy, ht _ im⟩ ⟨fun a' U g2 mk q => ?_, fun U hU hW => ⟨⟨rfl, by rw [hU], by rw [hU]; exact hPa, va_K.moved hW.alike hK, zz_warm hW hN⟩, hE U hU hW⟩⟩ rfl hn hsz hst (lv_room hW) hdg hf) hS (fun q _ h => hF q h) hF (fun u t H1 locs1 ht1 hvm hw hB hz1 hk1 hS1 => ?_)
  · obtain ⟨⟨q0, q1, qP, qK, qN⟩, qE⟩ := q
    exact ⟨⟨q0, q1, qP, va_K.moved (u := U) (U := U.calling g2 mk a') (Vm.Alike.refl U.vm) qK, zz_same (u := U) (U := U.calling g2 mk a') rfl qN⟩, hEb a' U g2 mk qE⟩
  · obtain ⟨nb, b1, b2, b3⟩ := hB
    rw [ht1] at b2
    exact kk nb H1 locs1 b1 (hL.join hk1 b2 b3 hS1)
end CE
set_option maxHeartbeats 8000000 in
set_option maxRecDepth 100000 in
/-- THE LAW, from its entry -/
theorem whole_start {p : Program} {e : Env} {s : State} {m : MethodId} {below : List Frame} {meth : Method} {c : Code} (l : Launch) (hflags : l.flags = flags0) {b L : Nat} {xs : Nat → Int32} (hL : L ≤ 3072) (C0 : lw_At p s m meth c b L xs) : W p l e room_1 s m #[Value.ref b] below meth c s.heap [] 0 0 (lw_Z below #[Value.ref b] s) (entryFrame m ([Value.ref b] : List Value).toArray 7) := by
  obtain ⟨hx, hb, hr, hml, hown, hts, hX, hbl, hlk, hgv⟩ := id C0
  have ht : ∀ w ∈ TT, w.before #[Value.ref b] s = true := fun w hw => hts w (List.mem_filter.mp hw).1
  have htab : ∀ w ∈ tables_1, w.before #[Value.ref b] s = true := fun w hw => hts w (List.mem_append_right _ hw)
  have hG : ∀ w ∈ GVL, w.before #[Value.ref b] s = true := flat_of_before _ hgv
  have hN := gv_nl htab
  obtain ⟨T, hT⟩ := gv_ty htab
  obtain ⟨G, hKc⟩ := gv_cl ht
  obtain ⟨ad, had⟩ := gv_stat htab hG
  obtain ⟨hZ, hE⟩ := had G T
  obtain ⟨w1, ew1, hRW⟩ := start_w
  have hst : l.stackTraces = false := by
    unfold Launch.stackTraces
    rw [hflags]
    decide +kernel
  have X : AmC p s m #[Value.ref b] meth c cL_law 7 RL (G, T, ad) := ⟨hx, hb, hml, hown, ht, ⟨hKc, hT⟩, hN, hlk⟩
  have hA : ∀ q : Nat, s.heap.size ≤ q → AS s q := fun _ h => h
  have hL0 : LW (G, T, ad) (AS s) [] s.heap s.heap [] := ⟨fun k q h => by simp at h, ⟨fun i j p q h => by simp at h, fun k q h => by simp at h⟩, va_S.rf, hA⟩
  have hl := lv_entry ([.ref b]) (n := 7) (Nat.le_of_ble_eq_true rfl)
  rw [lg_entry_eq]
  generalize (lg_sl ([.ref b]) ++ List.replicate (7 - (lg_sl ([.ref b])).length) Slot.unset).toArray = ls at hl ⊢
  have hl : lv_has ls 7 [(0, .ref b)] := hl
  refine x_new (ci := 9) (N := 12) X hL0 rfl cs_9 tyX9_ok tw_1_26 tw_1_27 tw_1_1 Dv9_ok rfl (by decide) (by decide) dL_0 (fun q0 H hL1 => ?_)
  refine lv_dup hx hb dL_3 rfl ?_
  refine x_ctorE (ws := []) (a := q0) (ci := 9) (df := Dv9) (As := []) (rest := [.ref q0]) X hL1 k_X9 (fun U hU hW => va_AO.moved hW.alike (va_AO.of (htab _ gv_t5.2.2.2.2))) (fun a' U g2 mk h => va_AO.moved (u := U) (U := U.calling g2 mk a') (Vm.Alike.refl U.vm) h) tw_1_28 tw_1_30 tw_1_1 ⟨by decide, by decide, by decide⟩ tw_1_29 rfl ⟨by decide, by decide⟩ rfl rfl hl.1 (Nat.le_of_ble_eq_true rfl) dL_4 ⟨by decide, by decide⟩ (fun nb H locs hB hL2 => ?_)
  obtain ⟨aC, eC, hC, rfl⟩ := hB
  subst eC
  have hL2 : LW (G, T, ad) (AS s) (zcells zC (G, T, aC) wC0) s.heap H locs := hL2
  refine lv_astore_n (lv' := [(1, .ref (aC 0)), (0, .ref b)]) hx hb dL_7 rfl hl (by decide) rfl (fun ls hl => ?_)
  refine x_new (ci := 10) (N := 42) X hL2 rfl cs_10 tyX10_ok tw_5_27 tw_5_28 tw_1_12 Dv10_ok rfl (by decide) (by decide) dL_8 (fun q1 H hL3 => ?_)
  refine lv_dup hx hb dL_11 rfl ?_
  have hsub : ∀ q, CtA q1 10 Dv10 H.size q → AS s q := fun q z => by
    rcases z with ⟨k2, e2, h2⟩ | h2
    · have hk2 : k2 = 0 := by have := (List.getElem?_eq_some_iff.mp h2).1; simp at this; exact this
      subst hk2
      cases h2
      exact hL3.2.1.2 (zcells zC (G, T, aC) wC0).length _ (by rw [List.getElem?_append_right (Nat.le_refl _), Nat.sub_self]; rfl)
    · exact Nat.le_trans hL3.2.2.1.1 h2
  refine x_ctorE (ws := zcells zC (G, T, aC) wC0) (a := q1) (ci := 10) (df := Dv10) (As := []) (rest := [.ref q1]) X hL3 (k_X10 ew1) (fun U hU hW => by rw [hU]; exact ((ZSr.warm hW (hZ.kept hL3.2.2.1)).narrow hsub)) (fun a' U g2 mk h => ZSr.same (u := U) (U := U.calling g2 mk a') (H := U.heap) rfl h) tw_5_29 tw_5_31 tw_1_12 ⟨by decide, by decide, by decide⟩ tw_5_30 rfl ⟨by decide, by decide⟩ rfl rfl hl.1 (Nat.le_of_ble_eq_true rfl) dL_12 ⟨by decide, by decide⟩ (fun nb H locs hB hL4 => ?_)
  obtain ⟨aM, eM, hM, rfl⟩ := hB
  subst eM
  refine lv_astore_n (lv' := [(2, .ref (aM 0)), (1, .ref (aC 0)), (0, .ref b)]) hx hb dL_15 rfl hl (by decide) rfl (fun ls hl => ?_)
  refine lv_iconst (v := (1 : Int32)) hx hb dL_16 (by decide) ?_
  refine x_newJ X hL4 (N := 1) (by decide) (by decide) (by decide) (by decide) (by decide) dL_17 (fun qo H hL5 => ?_)
  rw [List.append_assoc] at hL5
  have hL5 : LW (G, T, ad) (AS s) (LWo (G, T, ad) aC aM qo wC0 w1 (fun _ => 0)) s.heap H locs := hL5
  refine lv_astore_n (lv' := [(3, .ref qo), (2, .ref (aM 0)), (1, .ref (aC 0)), (0, .ref b)]) hx hb dL_19 rfl hl (by decide) rfl (fun ls hl => ?_)
  refine lv_iconst (v := (0 : Int32)) hx hb dL_20 (by decide) ?_
  refine lv_istore (lv' := [(4, .int 0), (3, .ref qo), (2, .ref (aM 0)), (1, .ref (aC 0)), (0, .ref b)]) hx hb dL_21 hl (by decide) rfl (fun ls hl => ?_)
  exact law_loop (L := L) (xs := xs) (g := (G, T, ad)) (aC := aC) (aM := aM) (qo := qo) ⟨X, ⟨hX, hbl, hL⟩, hZ, hE, ⟨hC, hM⟩, hst⟩ hr (L + 1) 0 (by omega) (by omega) wC0 w1 (fun _ => 0) H locs ls hRW hL5 (lv_sub hl [4, 3, 2, 1, 0] rfl)
