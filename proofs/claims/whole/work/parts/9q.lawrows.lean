/-! The law's frame: two worlds, a cell for an answer, the script. -/
def AS (s : State) : Nat → Prop := fun q => s.heap.size ≤ q
abbrev gW (g : Gh) (a : Nat → Nat) : Gh := (g.1, g.2.1, a)
def LWo (g : Gh) (aC aM : Nat → Nat) (qo : Nat) (wC wM : Wd) (f : Nat → Int64) : va_W := zcells zC (gW g aC) wC ++ (zcells zM (gW g aM) wM ++ [(qo, OutE g f)])
def lvB (b : Nat) (aC aM : Nat → Nat) (qo i : Nat) : List (Nat × Value) := [(0, .ref b), (1, .ref (aC 0)), (2, .ref (aM 0)), (3, .ref qo), (4, .int (nI i))]
/-- what holds all along the law -/
def LwX (p : Program) (l : Launch) (s : State) (m : MethodId) (b : Nat) (meth : Method) (c : Code) (L : Nat) (xs : Nat → Int32) (g : Gh) (aC aM : Nat → Nat) : Prop :=
  AmC p s m #[.ref b] meth c cL_law 7 RL g ∧ (va_X b L xs s s.heap ∧ b < s.heap.size ∧ L ≤ 3072) ∧ ZSr (AS s) g s s.heap ∧ XE (AS s) g s s.heap ∧ ((∀ k, 1000 ≤ k → aC k = g.2.2 k) ∧ ∀ k, 1000 ≤ k → aM k = g.2.2 k) ∧ l.stackTraces = false
section LR
variable {p : Program} {l : Launch} {e : Env} {s : State} {m : MethodId} {b : Nat} {below : List Frame} {meth : Method} {c : Code} {H : Heap} {locs : List Loc} {cells slots : Nat} {Q : State → Prop}
variable {L : Nat} {xs : Nat → Int32} {g : Gh} {aC aM : Nat → Nat} {qo i : Nat} {wC wM : Wd} {f : Nat → Int64} {pc : Nat} {ls : Array Slot} {rest : List Value}
theorem y_rd (X : LwX p l s m b meth c L xs g aC aM) {k : Nat} {kI : Int} {ws : va_W} (hL : LW g (AS s) ws s.heap H locs) (hl : lv_has ls 7 (lvB b aC aM qo i)) (hi : i + 6 ≤ L) (hk : k < 6) (hkI : Int32.ofInt kI = nI k) (d0 : decode cL_law pc = .ok (.aload_n 0, 1)) (d1 : decode cL_law (pc + 1) = .ok (.iload 4, 2)) (d2 : decode cL_law (pc + 3) = .ok (.iconst kI, 1)) (d3 : decode cL_law (pc + 4) = .ok (.iadd, 1)) (d4 : decode cL_law (pc + 5) = .ok (.iaload, 1))
    (kk : W p l e room_1 s m #[.ref b] below meth c H locs cells slots Q (F0 m (pc + 6) ls (.int (xs (i + k)) :: rest))) : W p l e room_1 s m #[.ref b] below meth c H locs cells slots Q (F0 m pc ls rest) := by
  obtain ⟨⟨hx, hb, -⟩, ⟨hX, hbl, hL3⟩, -⟩ := X
  have hl : lv_has ls 7 [(0, .ref b), (1, .ref (aC 0)), (2, .ref (aM 0)), (3, .ref qo), (4, .int (nI i))] := hl
  have hbA : ¬ AS s b := Nat.not_le.mpr hbl
  refine lv_aload_n hx hb d0 rfl (lv_at hl 0 rfl) ?_
  refine lv_iload hx hb d1 (lv_at hl 4 rfl) ?_
  refine lv_iconst hx hb d2 hkI ?_
  refine lv_iadd hx hb d3 ?_
  rw [nI_add]
  refine va_sld hx hb hX hbl hbA hL.2.2.1 (vp_in_nI (by omega) (by omega)) d4 ?_
  rw [nI_clamp (by omega)]
  exact kk
variable {y : MethodName} {bytes : ByteArray} {maxL d idx n : Nat} {ret : Option FieldType} {As st0 : List Value} {w2 : Wd} {v : Option Value}
theorem y_C (X : LwX p l s m b meth c L xs g aC aM) (hL : LW g (AS s) (LWo g aC aM qo wC wM f) s.heap H locs) (hM : Met l y (Cond.code y bytes maxL ret :: TT) (rmd d) (Pcw zC (gW g aC) wC (.ref (aC 0) :: As)) (Qw zC (gW g aC) w2 v) 0 0 (zA zC (gW g aC))) (lk : Cond.methodLink RL idx y ∈ TT) (ms : MSt y bytes maxL ret n) (im : IMt y) (cn : CNm 9 y.cls)
    (hR : d + 1 ≤ 14 ∧ 8 + (maxL + 11) + 40 * d ≤ 530) (hn : As.length = n) (hst : st0 = As.reverse ++ .ref (aC 0) :: rest) (hsz : ls.size = 7) (hW : (rest.map fun v => v.category).sum ≤ 8) (hdg : decode cL_law pc = .ok (.invokevirtual idx, 3)) (hf : cells ≤ 1114 ∧ slots ≤ 20432) {st1 : List Value} (hs1 : v.toList ++ rest = st1)
    (kk : ∀ (H : Heap) (locs : List Loc), LW g (AS s) (LWo g aC aM qo w2 wM f) s.heap H locs → W p l e room_1 s m #[.ref b] below meth c H locs cells slots Q (F0 m (pc + 3) ls st1)) : W p l e room_1 s m #[.ref b] below meth c H locs cells slots Q (F0 m pc ls st0) := by
  obtain ⟨X1, -, hZ, -, hA, -⟩ := X
  exact x_callV (g2 := gW g aC) (W1 := []) (W2 := zcells zM (gW g aM) wM ++ [(qo, OutE g f)]) (Z := zC) (k := 0) (ci := 9) X1 hZ rfl rfl hA.1 hL hM (Or.inl lk) ms im rfl cn hR hn hst hsz hW hdg hf hs1 kk
theorem y_M (X : LwX p l s m b meth c L xs g aC aM) (hL : LW g (AS s) (LWo g aC aM qo wC wM f) s.heap H locs) (hM : Met l y (Cond.code y bytes maxL ret :: TT) (rmd d) (Pcw zM (gW g aM) wM (.ref (aM 0) :: As)) (Qw zM (gW g aM) w2 v) 0 0 (zA zM (gW g aM))) (lk : Cond.methodLink RL idx y ∈ TT) (ms : MSt y bytes maxL ret n) (im : IMt y) (cn : CNm 10 y.cls)
    (hR : d + 1 ≤ 14 ∧ 8 + (maxL + 11) + 40 * d ≤ 530) (hn : As.length = n) (hst : st0 = As.reverse ++ .ref (aM 0) :: rest) (hsz : ls.size = 7) (hW : (rest.map fun v => v.category).sum ≤ 8) (hdg : decode cL_law pc = .ok (.invokevirtual idx, 3)) (hf : cells ≤ 1114 ∧ slots ≤ 20432) {st1 : List Value} (hs1 : v.toList ++ rest = st1)
    (kk : ∀ (H : Heap) (locs : List Loc), LW g (AS s) (LWo g aC aM qo wC w2 f) s.heap H locs → W p l e room_1 s m #[.ref b] below meth c H locs cells slots Q (F0 m (pc + 3) ls st1)) : W p l e room_1 s m #[.ref b] below meth c H locs cells slots Q (F0 m pc ls st0) := by
  obtain ⟨X1, -, hZ, -, hA, -⟩ := X
  exact x_callV (g2 := gW g aM) (W1 := zcells zC (gW g aC) wC) (W2 := [(qo, OutE g f)]) (Z := zM) (k := 0) (ci := 10) X1 hZ rfl rfl hA.2 hL hM (Or.inl lk) ms im rfl cn hR hn hst hsz hW hdg hf hs1 kk
/-- the law's helper -/
theorem y_H (X : LwX p l s m b meth c L xs g aC aM) (hL : LW g (AS s) (LWo g aC aM qo wC wM f) s.heap H locs) {hh : List (Nat × Nat × Nat × Nat)} {bo : Bool} {r : Int32} (hM : Met l y (Cond.codeWith y bytes maxL (some .int) hh :: TT) RML (PLw (gW g aC) wC qo H.size f As) (QLw (gW g aC) wC qo H.size f bo r) 1 6 (AL (gW g aC) qo H.size)) (lk : Cond.methodLink RL idx y ∈ TT) (hcode : Cond.codeWith y bytes maxL (some .int) hh ∈ TT) (hst0 : Cond.static y ∈ TT) (hini : Cond.initialized y.cls ∈ TT) (m3 : y.cls ≠ "java/lang/invoke/MethodHandle" ∧ y.cls ≠ "java/lang/invoke/VarHandle" ∧ (parseMethodDescriptor y.desc).map (fun d => d.parameters.length) = some n)
    (hR : maxL ≤ 10) (hn : As.length = n) (hst : st0 = As.reverse ++ rest) (hsz : ls.size = 7) (hW : (rest.map fun v => v.category).sum ≤ 8) (hdg : decode cL_law pc = .ok (.invokestatic idx, 3)) (hf : cells + 1 ≤ 1114 ∧ slots + 6 ≤ 20432)
    (kk : ∀ (H : Heap) (locs : List Loc), LW g (AS s) (LWo g aC aM qo wC wM (if bo = true then vp_updL f 0 r.toInt64 else f)) s.heap H locs → W p l e room_1 s m #[.ref b] below meth c H locs (cells + 1) (slots + 6) Q (F0 m (pc + 3) ls (.int (if bo = true then 0 else 1) :: rest))) : W p l e room_1 s m #[.ref b] below meth c H locs cells slots Q (F0 m pc ls st0) := by
  obtain ⟨⟨hx, hb, hml, hown, ht, hK, hN, hlk⟩, -, hZ, hE, hA, -⟩ := X
  have hL0 := hL
  obtain ⟨hP, hD, hS, hA2⟩ := hL
  -- the part of the list that the helper works on
  have hin : ∀ (k : Nat) (q : Nat × va_E), (zcells zC (gW g aC) wC ++ [(qo, OutE g f)])[k]? = some q → ∃ j, (LWo g aC aM qo wC wM f)[j]? = some q ∧ (k < zC.1 → j = k) ∧ (zC.1 ≤ k → j = zC.1 + zM.1) := fun k q hk => by
    by_cases h : k < zC.1
    · rw [List.getElem?_append_left (by rw [zlen]; exact h)] at hk
      exact ⟨k, by unfold LWo; rw [List.getElem?_append_left (by rw [zlen]; exact h)]; exact hk, fun _ => rfl, fun h2 => absurd h (by omega)⟩
    · rw [List.getElem?_append_right (by rw [zlen]; omega), zlen] at hk
      have h1 := (List.getElem?_eq_some_iff.mp hk).1
      have h0 : k - zC.1 = 0 := by simp at h1; omega
      rw [h0] at hk
      refine ⟨zC.1 + zM.1, ?_, fun h2 => absurd h2 h, fun _ => rfl⟩
      unfold LWo
      rw [List.getElem?_append_right (by rw [zlen]; omega), zlen, List.getElem?_append_right (by rw [zlen]; omega), zlen, show zC.1 + zM.1 - zC.1 - zM.1 = 0 by omega]
      exact hk
  have qP : va_P (gW g aC).1 vwCl (zcells zC (gW g aC) wC ++ [(qo, OutE g f)]) H := fun k q hk => by
    obtain ⟨j, h1, -⟩ := hin k q hk
    exact hP j q h1
  have klt : ∀ (k : Nat) (q : Nat × va_E), (zcells zC (gW g aC) wC ++ [(qo, OutE g f)])[k]? = some q → k < zC.1 + 1 := fun k q hk => by
    have := (List.getElem?_eq_some_iff.mp hk).1
    rw [List.length_append, zlen] at this
    exact this
  have zin : ∀ q, zA zC (gW g aC) q → AS s q := (LW.mid (g := g) (g2 := gW g aC) (A := AS s) (W1 := []) (W2 := zcells zM (gW g aM) wM ++ [(qo, OutE g f)]) (Z := zC) (w := wC) rfl hL0).2.2.1
  have oin : AS s qo := by
    obtain ⟨j, h1, -⟩ := hin zC.1 _ zlast
    exact hD.2 j _ h1
  have sub : ∀ q, AL (gW g aC) qo H.size q → AS s q := fun q h => by
    rcases h with h | h | h
    · exact zin q h
    · rw [h]; exact oin
    · exact Nat.le_trans hS.1 h
  have qD : va_D (AL (gW g aC) qo H.size) (zcells zC (gW g aC) wC ++ [(qo, OutE g f)]) := by
    refine ⟨fun i j x y hi hj ee => ?_, fun k q hk => ?_⟩
    · obtain ⟨i2, a1, a2, a3⟩ := hin i x hi
      obtain ⟨j2, b1, b2, b3⟩ := hin j y hj
      have e2 := hD.1 i2 j2 x y a1 b1 ee
      have u1 := klt i x hi
      have u2 := klt j y hj
      have z1 : zC.1 = 62 := rfl
      have z2 : zM.1 = 24 := rfl
      rcases Nat.lt_or_ge i zC.1 with h1 | h1 <;> rcases Nat.lt_or_ge j zC.1 with h2 | h2
      · have := a2 h1; have := b2 h2; omega
      · have := a2 h1; have := b3 h2; omega
      · have := a3 h1; have := b2 h2; omega
      · omega
    · rcases Nat.lt_or_ge k zC.1 with h1 | h1
      · rw [List.getElem?_append_left (by rw [zlen]; exact h1), zget zC (gW g aC) wC h1] at hk
        cases hk
        exact Or.inl ⟨k, h1, rfl⟩
      · have h2 := klt k q hk
        have h3 : k = zC.1 := by omega
        rw [h3, zlast] at hk
        cases hk
        exact Or.inr (Or.inl rfl)
  have hgA : ∀ k, 1000 ≤ k → (gW g aC).2.2 k = g.2.2 k := hA.1
  have hZ2 : ∀ U : State, s.WarmedH U.vm → ZSr (AL (gW g aC) qo H.size) (gW g aC) U H := fun U hW => by
    have h1 := ZSr.warm hW (hZ.kept hS)
    obtain ⟨⟨h1, h2⟩, ⟨h3, h4⟩, h5, h6, h7, h8⟩ := h1
    have e1 := hgA 1000 (by omega)
    have e2 := hgA 1001 (by omega)
    have e3 : (fun i => (gW g aC).2.2 (2000 + i)) = fun i => g.2.2 (2000 + i) := funext fun i => hgA _ (by omega)
    have e4 : (fun i => (gW g aC).2.2 (3000 + i)) = fun i => g.2.2 (3000 + i) := funext fun i => hgA _ (by omega)
    refine ⟨⟨?_, ?_⟩, ⟨?_, ?_⟩, ?_, fun i hi => ?_, h7.narrow sub, h8.narrow sub⟩
    · rw [e1]; exact h1.narrow sub
    · rw [e2]; exact h2.narrow sub
    · rw [e1]; exact h3.narrow sub
    · rw [e2]; exact h4.narrow sub
    · rw [e3, e4]; exact h5.narrow sub
    · rw [hgA _ (by omega)]; exact h6 i hi
  have hE2 : ∀ U : State, s.WarmedH U.vm → XE (AL (gW g aC) qo H.size) (gW g aC) U H := fun U hW => XE.to (XE.warm hW (hE.kept hS)) hgA sub
  have hpc : PreS s H (PLw (gW g aC) wC qo H.size f As) As := by
    refine ⟨fun a U g2 mk q => ?_, fun U hU hW => ⟨rfl, by rw [hU], by rw [hU]; exact qP, qD, va_K.moved hW.alike hK, zz_warm hW hN, by rw [hU]; exact hZ2 U hW, by rw [hU]; exact hE2 U hW⟩⟩
    obtain ⟨q0, q1, q2, q3, q4, q5, q6, q7⟩ := q
    exact ⟨q0, q1, q2, q3, va_K.moved (u := U) (U := U.calling g2 mk a) (Vm.Alike.refl U.vm) q4, zz_same (u := U) (U := U.calling g2 mk a) rfl q5, ZSr.same (u := U) (U := U.calling g2 mk a) (H := U.heap) rfl q6, XE.same (u := U) (U := U.calling g2 mk a) (H := U.heap) rfl q7⟩
  have cw : vx_CSW room_1 s #[.ref b] RL idx y bytes maxL (some .int) hh (Cond.codeWith y bytes maxL (some .int) hh :: TT) RML 1 6 n := by
    refine ⟨⟨rfl, rfl, by decide, by show 8 + (maxL + 11) + 280 ≤ 530; omega, pay_in ht (fun w hw => ?_), List.mem_cons_self⟩, ht _ hcode, ht _ hini, ⟨m3.1, m3.2.1⟩, fun sig h => ?_, ht _ lk, ht _ hst0⟩
    · have h1 : w ∈ TT := by
        rcases List.mem_cons.mp hw with rfl | h2
        · exact hcode
        · exact h2
      exact ⟨h1, good_of_word (List.mem_filter.mp h1).2⟩
    · have h2 := m3.2.2
      rw [h] at h2
      exact (Option.some.inj h2).symm
  have hr := vx_runSW (As := As) (rest := rest) (cells := cells) (slots := slots) (locs := locs) (H := H) (e := e) (below := below) (meth := meth) (g := F0 m pc ls st0) ⟨hx, hb, hml, hown, ht⟩ hM cw hpc rfl hn hsz hst (lv_room hW) hdg hf
  intro T hT X
  obtain ⟨v2, st₀, t, T', L', h0, X', hLo, e1, e2, ⟨hv, hP2, hz, hk⟩, st⟩ := hr T hT X
  cases hv
  rw [h0] at hz hk
  rw [← e1] at hP2 hz hk
  have hLn : LW g (AS s) (LWo g aC aM qo wC wM (if bo = true then vp_updL f 0 r.toInt64 else f)) s.heap T'.heap (locs ++ L') := by
    refine ⟨fun j q hj => ?_, va_D.re ?_ hD, ⟨Nat.le_trans hS.1 hz, fun q h1 h2 => by rw [hk q (Nat.lt_of_lt_of_le h1 hS.1) (fun z => h2 (sub q z))]; exact hS.2.1 q h1 h2, fun q hq => ?_⟩, hA2⟩
    · unfold LWo at hj
      rcases List.mem_append.mp (List.mem_of_getElem? hj) with h | h
      · obtain ⟨k, hk2⟩ := List.getElem?_of_mem (List.mem_append_left [(qo, OutE g (if bo = true then vp_updL f 0 r.toInt64 else f))] h)
        exact hP2 k q hk2
      · rcases List.mem_append.mp h with h | h
        · obtain ⟨k, hk2⟩ := List.getElem?_of_mem h
          have hj2 : (LWo g aC aM qo wC wM f)[zC.1 + k]? = some q := by
            unfold LWo
            rw [List.getElem?_append_right (by rw [zlen]; omega), zlen, show zC.1 + k - zC.1 = k by omega, List.getElem?_append_left (List.getElem?_eq_some_iff.mp hk2).1]
            exact hk2
          have kl : k < zM.1 := by have := (List.getElem?_eq_some_iff.mp hk2).1; rw [zlen] at this; exact this
          have at0 := hP _ q hj2
          refine at0.kept (hk q.1 at0.lt (fun z => ?_))
          rcases z with ⟨k3, h3, h4⟩ | h4 | h4
          · have := hD.1 (zC.1 + k) k3 q (aC k3, zcl zC (gW g aC) wC k3 (zct zC k3)) hj2 (by unfold LWo; rw [List.getElem?_append_left (by rw [zlen]; exact h3)]; exact zget zC (gW g aC) wC h3) h4
            omega
          · obtain ⟨j4, h5, -, h6⟩ := hin zC.1 _ zlast
            have h7 := h6 (Nat.le_refl _)
            have := hD.1 (zC.1 + k) j4 q _ hj2 h5 h4
            omega
          · exact absurd at0.lt (by omega)
        · obtain ⟨k, hk2⟩ := List.getElem?_of_mem (List.mem_append_right (zcells zC (gW g aC) wC) h)
          exact hP2 k q hk2
    · unfold LWo
      rw [List.map_append, List.map_append, List.map_append, List.map_append]
      rfl
    · rcases List.mem_append.mp hq with h | h
      · exact hS.2.2 q h
      · exact sub _ (hLo q h)
  obtain ⟨t2, a1, b1⟩ := kk T'.heap (locs ++ L') hLn T' rfl X'
  exact ⟨t2, st t2 a1, b1⟩
end LR
