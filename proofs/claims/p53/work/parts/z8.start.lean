-- deps: z1 18 y9
/-! From the entry to the end. -/

section CE
variable {p : Program} {l : Launch} {e : Env} {R : Room} {s : State} {m : MethodId} {args : Array Value} {below : List Frame} {meth : Method} {c : Code} {H : Heap} {locs : List Loc} {cells slots : Nat} {Q : State → Prop}
variable {cc : ByteArray} {nL : Nat} {own : String} {g : Gh} {pc : Nat} {ls : Array Slot} {rest : List Value} {A : Nat → Prop} {ws : va_W}
theorem x_ctorE (X : AmC p s m args meth c cc nL own g) {E : Nat → Nat → State → Prop} {a ci d mc ms2 n idx maxL : Nat} {df : List Value} {As st0 : List Value} {y : MethodName} {bytes : ByteArray} {B : Nat → va_W → Prop} (hL : LW g A (ws ++ [(a, .inr (ci, df))]) s.heap H locs) (hM : CtME E l g y bytes maxL d mc ms2 ci df As B) (hE : ∀ U : State, U.heap = H → s.WarmedH U.vm → E a H.size U) (hEb : ∀ (a' : Array Value) (U : State) (g2 : JFrame) (mk : MethodId), E a H.size U → E a H.size (U.calling g2 mk a')) (lk : Cond.methodLink own idx y ∈ TT) (m1 : Cond.code y bytes maxL none ∈ TT) (m2 : Cond.initialized y.cls ∈ TT) (m3 : y.cls ≠ "java/lang/invoke/MethodHandle" ∧ y.cls ≠ "java/lang/invoke/VarHandle" ∧ (parseMethodDescriptor y.desc).map (fun d => d.parameters.length) = some n) (im : Cond.instanceMethod y ∈ TT) (hy : y.name = "<init>")
    (hR : d + 1 ≤ R.frames ∧ 8 + (maxL + 11) + 40 * d ≤ R.locals) (hn : As.length = n) (hst : st0 = As.reverse ++ .ref a :: rest) (hsz : ls.size = nL) (hW : (rest.map fun v => v.category).sum ≤ 8) (hdg : decode cc pc = .ok (.invokespecial idx, 3)) (hf : cells + mc ≤ R.cells ∧ slots + ms2 ≤ R.slots)
    (kk : ∀ (nb : va_W) (H1 : Heap) (locs1 : List Loc), B a nb → LW g A (ws ++ nb) s.heap H1 locs1 → W p l e R s m args below meth c H1 locs1 (cells + mc) (slots + ms2) Q (F0 m (pc + 3) ls rest)) : W p l e R s m args below meth c H locs cells slots Q (F0 m pc ls st0) := by
  obtain ⟨hx, hb, hml, hown, ht, hK, hN, hlk⟩ := X
  have hL' := hL
  obtain ⟨hP, hD, hS, hA⟩ := hL'
  have hlast : (ws ++ [(a, (.inr (ci, df) : va_E))])[ws.length]? = some (a, .inr (ci, df)) := by rw [List.getElem?_append_right (Nat.le_refl _), Nat.sub_self]; rfl
  have hPa : va_P g.1 vwCl [(a, .inr (ci, df))] H := fun k q hk => by
    have hk0 : k = 0 := by have := (List.getElem?_eq_some_iff.mp hk).1; simp at this; exact this
    subst hk0
    cases hk
    exact hP _ _ hlast
  have hF : ∀ q, va_A [(a, (.inr (ci, df) : va_E))] H.size q → A q := fun q z => by
    rcases z with ⟨k2, e2, h2⟩ | h2
    · have hk2 : k2 = 0 := by have := (List.getElem?_eq_some_iff.mp h2).1; simp at this; exact this
      subst hk2
      cases h2
      exact hD.2 ws.length _ hlast
    · exact hA q (Nat.le_trans hS.1 h2)
  refine va_callv (va_runI (As := As) (rest := rest) ⟨hx, hb, hml, hown, ht⟩ (hM a H.size) ⟨callB_of n ht (zz_good m1) rfl rfl rfl (ht _ m2) (ht _ lk) m3 hR, hy, ht _ im⟩ ⟨fun a' U g2 mk q => ?_, fun U hU hW => ⟨⟨rfl, by rw [hU], by rw [hU]; exact hPa, va_K.moved hW.alike hK, zz_warm hW hN⟩, hE U hU hW⟩⟩ rfl hn hsz hst (lv_room hW) hdg hf) hS (fun q _ h => hF q h) hF (fun u t H1 locs1 ht1 hvm hw hB hz1 hk1 hS1 => ?_)
  · obtain ⟨⟨q0, q1, qP, qK, qN⟩, qE⟩ := q
    exact ⟨⟨q0, q1, qP, va_K.moved (u := U) (U := U.calling g2 mk a') (Vm.Alike.refl U.vm) qK, zz_same (u := U) (U := U.calling g2 mk a') rfl qN⟩, hEb a' U g2 mk qE⟩
  · obtain ⟨nb, b1, b2, b3⟩ := hB
    rw [ht1] at b2
    exact kk nb H1 locs1 b1 (hL.join hk1 b2 b3 hS1)
end CE
set_option maxHeartbeats 8000000 in
set_option maxRecDepth 100000 in
/-- THE LAW, from its entry -/
theorem whole_start {p : Program} {e : Env} {s : State} {m : MethodId} {below : List Frame} {meth : Method} {c : Code} (l : Launch) (hflags : l.flags = flags0) {b L : Nat} {xs : Nat → Int32} (hLL : L ≤ 260) (C0 : lw_At p s m meth c b L xs) : W p l e room_1 s m #[Value.ref b] below meth c s.heap [] 0 0 (lw_Z below #[Value.ref b] s) (entryFrame m ([Value.ref b] : List Value).toArray 13) := by
  obtain ⟨hx, hb, hr, hml, hown, hts, hX, hbl, hlk, hgv⟩ := id C0
  have htab : ∀ w ∈ tables_1, w.before #[Value.ref b] s = true := fun w hw => hts w (List.mem_append_right _ hw)
  have ht : ∀ w ∈ TT, w.before #[Value.ref b] s = true := gv_ts htab hts
  have hG : ∀ w ∈ GVL, w.before #[Value.ref b] s = true := flat_of_before _ hgv
  have hN := gv_nl htab
  obtain ⟨T, hT⟩ := gv_ty htab
  obtain ⟨G, hKc⟩ := gv_cl ht
  obtain ⟨ad, had2, had⟩ := gv_stat htab hG
  have hZ0 := had G T
  obtain ⟨wz, ewz, hlaw⟩ := laws_ok
  have X : AmC p s m #[Value.ref b] meth c cL_law 13 RL (G, T, ad) := ⟨hx, hb, hml, hown, ht, ⟨hKc, hT⟩, hN, hlk⟩
  have hA : ∀ q : Nat, s.heap.size ≤ q → AS s q := fun _ h => h
  have hZ : ZX (L, xs) (AS s) (G, T, ad) s s.heap := by
    refine ⟨hZ0, ?_, va_Nw.of rfl (htab _ gv_w1), gv_ii htab⟩
    show va_T .int (ad 1002) L (fun j => .int (xs j)) (AS s) s s.heap
    rw [had2]
    obtain ⟨scr, h1, h2, h3, h4, h5⟩ := hX
    exact ⟨scr, h1, h2, h3, by omega, by rw [h4], h5, Nat.not_le.mpr hbl⟩
  have hL0 : LW (G, T, ad) (AS s) [] s.heap s.heap [] := ⟨fun k q h => by simp at h, ⟨fun i j p q h => by simp at h, fun k q h => by simp at h⟩, va_S.rf, hA⟩
  have hl := lv_entry ([.ref b]) (n := 13) (Nat.le_of_ble_eq_true rfl)
  rw [lg_entry_eq]
  generalize (lg_sl ([.ref b]) ++ List.replicate (13 - (lg_sl ([.ref b])).length) Slot.unset).toArray = ls at hl ⊢
  have hl : lv_has ls 13 [(0, .ref b)] := hl
  refine x_new (ci := 9) (N := 12) X hL0 rfl cs_9 tyX9_ok tw_1_28 tw_1_29 tw_1_1 Dv9_ok rfl (by show _ ≤ 600086; omega) (by show _ ≤ 7301442; omega) dL_law_0 (fun q0 H hL1 => ?_)
  refine lv_dup hx hb dL_law_3 rfl ?_
  refine x_ctorE (ws := []) (a := q0) (ci := 9) (df := Dv9) (As := []) (rest := [.ref q0]) X hL1 k_X9 (fun U hU hW => va_AO.moved hW.alike (va_AO.of (htab _ gv_t5.2.2.2.2))) (fun a' U g2 mk h => va_AO.moved (u := U) (U := U.calling g2 mk a') (Vm.Alike.refl U.vm) h) tw_1_30 tw_1_32 tw_1_1 ⟨by decide, by decide, by decide⟩ tw_1_31 rfl ⟨by decide, by decide⟩ rfl rfl hl.1 (Nat.le_of_ble_eq_true rfl) dL_law_4 ⟨by show _ ≤ 600086; omega, by show _ ≤ 7301442; omega⟩ (fun nb H locs hB hL2 => ?_)
  obtain ⟨aC, eC, hC, rfl⟩ := hB
  subst eC
  have hL2 : LW (G, T, ad) (AS s) ([] ++ zcells zC (gW (G, T, ad) aC) wC0) s.heap H locs := hL2
  refine lv_astore_n (lv' := [(1, .ref (aC 0)), (0, .ref b)]) hx hb dL_law_7 rfl hl (by decide) rfl (fun ls hl => ?_)
  refine W.widen (k := 100) (n := 20000) (by omega) (by omega) ?_
  refine w_lawA (Lx := (L, xs)) (aC := aC) X hZ hC ewz (fun H locs ls hL hl => ?_) H locs ls hL2 (lv_sub hl [1, 0] rfl)
  refine lv_aload_n hx hb dL_law_42 rfl (lv_at hl 1 rfl) ?_
  refine lv_aload_n hx hb dL_law_43 rfl (lv_at hl 0 rfl) ?_
  have hadB : (G, T, ad).2.2 1002 = b := had2
  refine x_callLS (As := [.ref b]) (rest := [.ref (aC 0)]) X hZ ([] ++ zcells zC (gW (G, T, ad) aC) wz) [] (by rw [List.append_nil]; exact hL) (by rw [← hadB]; exact k_program (Lx := (L, xs)) (g := (G, T, ad)) hLL) tw_3_167 ms_L_program tw_3_168 ⟨by decide, by decide⟩ rfl rfl hl.1 (Nat.le_of_ble_eq_true rfl) dL_law_44 ⟨by show _ ≤ 600086; omega, by show _ ≤ 7301442; omega⟩ (fun v nb H locs hB hL => ?_)
  obtain ⟨r, y, f, t, k, rfl, rfl, hf, hP, h3, h10⟩ := hB
  obtain ⟨r2, w2, e1, e2⟩ := hlaw t k f hP h3 h10 hf
  have hn : t.length ≤ 5000 := by have := hP.len; omega
  have hL : LW (G, T, ad) (AS s) ([] ++ ([(r, stE y), (y, ba (G, T, ad) t.length f)] ++ zcells zC (gW (G, T, ad) aC) wz)) s.heap H locs := hL.perm (by simp only [List.nil_append]; exact List.perm_append_comm)
  refine x_callLS (As := [.ref (aC 0), .ref r]) (rest := []) X hZ [] _ hL (c_L_load e1 hn hC) tw_3_108 ms_L_load tw_3_109 ⟨by decide, by decide⟩ rfl rfl hl.1 (Nat.le_of_ble_eq_true rfl) dL_law_47 ⟨by show _ ≤ 600086; omega, by show _ ≤ 7301442; omega⟩ (fun v nb H locs hB hL => ?_)
  obtain ⟨rfl, rfl⟩ := hB
  have hL : LW (G, T, ad) (AS s) ([] ++ zcells zC (gW (G, T, ad) aC) w2) s.heap H locs := hL.subl (List.sublist_append_right _ _)
  refine lv_istore_n (lv' := [(2, .int r2), (0, .ref b), (1, .ref (aC 0))]) hx hb dL_law_50 rfl hl (by decide) rfl (fun ls hl => ?_)
  refine W.widen (k := 500) (n := 1030000) (by omega) (by omega) ?_
  exact w_lawB (Lx := (L, xs)) (aC := aC) X hr hZ hC e2 H locs ls hL (lv_sub hl [1, 2, 0] rfl)
