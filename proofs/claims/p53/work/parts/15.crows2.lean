/-! A world inside a growing list: calls on it; constructors with more to ask for. -/
def ZSr (A : Nat → Prop) (g : Gh) (U : State) (H : Heap) : Prop := (va_Z RX9 "OPERAND_TYPES" "[I" (.ref (g.2.2 1000)) A U H ∧ va_Z RX9 "KEYWORDS" "[J" (.ref (g.2.2 1001)) A U H) ∧
  (va_T .int (g.2.2 1000) 18 (fun j => .int (opT j)) A U H ∧ va_T .long (g.2.2 1001) 6 (fun j => .long (kwT j)) A U H) ∧
  vk_S 9 lsLen lsByt (fun i => g.2.2 (2000 + i)) (fun i => g.2.2 (3000 + i)) A U H ∧ (∀ i, i < 9 → vk_R RL (lsIx i) (lsTx i) (g.2.2 (2000 + i)) U) ∧
  va_Z "java/lang/String" "COMPACT_STRINGS" "Z" (.int 1) A U H ∧ va_Zq "jdk/internal/util/Preconditions" "SIOOBE_FORMATTER" "Ljava/util/function/BiFunction;" A U H
theorem ZSr.zs {A : Nat → Prop} {Z : Shp} {g g2 : Gh} {U : State} {H : Heap} (h : ZSr A g U H) (hg : ∀ k, 1000 ≤ k → g2.2.2 k = g.2.2 k) (hA : ∀ q, zA Z g2 q → A q) : ZS Z g2 U H := by
  obtain ⟨⟨h1, h2⟩, ⟨h3, h4⟩, h5, h6, h7, h8⟩ := h
  have e1 := hg 1000 (by omega)
  have e2 := hg 1001 (by omega)
  have e3 : (fun i => g2.2.2 (2000 + i)) = fun i => g.2.2 (2000 + i) := funext fun i => hg _ (by omega)
  have e4 : (fun i => g2.2.2 (3000 + i)) = fun i => g.2.2 (3000 + i) := funext fun i => hg _ (by omega)
  refine ⟨⟨?_, ?_⟩, ⟨?_, ?_⟩, ?_, fun i hi => ?_, h7.narrow hA, h8.narrow hA⟩
  · rw [e1]; exact h1.narrow hA
  · rw [e2]; exact h2.narrow hA
  · rw [e1]; exact h3.narrow hA
  · rw [e2]; exact h4.narrow hA
  · rw [e3, e4]; exact h5.narrow hA
  · rw [hg _ (by omega)]; exact h6 i hi
theorem ZSr.kept {A : Nat → Prop} {g : Gh} {U : State} {H H1 : Heap} {locs : List Loc} (hS : va_S A H H1 locs) (h : ZSr A g U H) : ZSr A g U H1 := by
  obtain ⟨⟨h1, h2⟩, ⟨h3, h4⟩, h5, h6, h7, h8⟩ := h
  exact ⟨⟨h1.kept hS.2.1, h2.kept hS.2.1⟩, ⟨h3.kept hS.2.1, h4.kept hS.2.1⟩, h5.kept hS.2.1, h6, h7.kept hS.2.1, h8.kept hS.2.1⟩
theorem ZSr.warm {A : Nat → Prop} {g : Gh} {s U : State} {H : Heap} (hW : s.WarmedH U.vm) (h : ZSr A g s H) : ZSr A g U H := by
  have hvm := hW.alike
  obtain ⟨⟨h1, h2⟩, ⟨h3, h4⟩, h5, h6, h7, h8⟩ := h
  exact ⟨⟨h1.moved hvm, h2.moved hvm⟩, ⟨va_T.moved hvm h3, va_T.moved hvm h4⟩, h5.moved hvm, fun i hi => (h6 i hi).warm hW, h7.moved hvm, h8.moved hvm⟩
theorem ZSr.same {A : Nat → Prop} {g : Gh} {u U : State} {H : Heap} (hv : U.vm = u.vm) (h : ZSr A g u H) : ZSr A g U H := by
  have hvm : u.vm.Alike U.vm := by rw [hv]; exact Vm.Alike.refl _
  obtain ⟨⟨h1, h2⟩, ⟨h3, h4⟩, h5, h6, h7, h8⟩ := h
  exact ⟨⟨h1.moved hvm, h2.moved hvm⟩, ⟨va_T.moved hvm h3, va_T.moved hvm h4⟩, h5.moved hvm, fun i hi => (h6 i hi).same hv, h7.moved hvm, h8.moved hvm⟩
theorem va_D.re {A : Nat → Prop} {w1 w2 : va_W} (h : w1.map Prod.fst = w2.map Prod.fst) (hD : va_D A w1) : va_D A w2 := by
  have key : ∀ (k : Nat) (q : Nat × va_E), w2[k]? = some q → ∃ q1 : Nat × va_E, w1[k]? = some q1 ∧ q1.1 = q.1 := fun k q hk => by
    have h1 : (w1.map Prod.fst)[k]? = some q.1 := by rw [h, List.getElem?_map, hk]; rfl
    rw [List.getElem?_map] at h1
    cases h2 : w1[k]? with
    | none => rw [h2] at h1; cases h1
    | some q1 => rw [h2] at h1; exact ⟨q1, rfl, Option.some.inj h1⟩
  refine ⟨fun i j p q hi hj e => ?_, fun k q hk => ?_⟩
  · obtain ⟨p1, a1, a2⟩ := key i p hi
    obtain ⟨q1, b1, b2⟩ := key j q hj
    exact hD.1 i j p1 q1 a1 b1 (by rw [a2, b2, e])
  · obtain ⟨q1, b1, b2⟩ := key k q hk
    rw [← b2]
    exact hD.2 k q1 b1
theorem zcells_fst (Z : Shp) (g : Gh) (w : Wd) : (zcells Z g w).map Prod.fst = (List.range Z.1).map g.2.2 := by
  simp [zcells, List.map_map, Function.comp_def]
/-- the list W1 ++ zcells ++ W2: what a call on the world in the middle may ask for -/
theorem LW.mid {g g2 : Gh} {A : Nat → Prop} {W1 W2 : va_W} {Z : Shp} {w : Wd} {H0 H : Heap} {locs : List Loc} (hg : g2.1 = g.1) (hL : LW g A (W1 ++ (zcells Z g2 w ++ W2)) H0 H locs) : va_P g2.1 vwCl (zcells Z g2 w) H ∧ va_D (zA Z g2) (zcells Z g2 w) ∧ (∀ q, zA Z g2 q → A q) ∧ (∀ (k : Nat) (q : Nat × va_E), (W1 ++ W2)[k]? = some q → ¬ zA Z g2 q.1) ∧ va_P g.1 vwCl (W1 ++ W2) H := by
  obtain ⟨hP, hD, hS, hA⟩ := hL
  have hin : ∀ (k : Nat) (q : Nat × va_E), (zcells Z g2 w)[k]? = some q → (W1 ++ (zcells Z g2 w ++ W2))[W1.length + k]? = some q := fun k q hk => by
    rw [List.getElem?_append_right (by omega), show W1.length + k - W1.length = k from by omega, List.getElem?_append_left (List.getElem?_eq_some_iff.mp hk).1]
    exact hk
  have hlen : (zcells Z g2 w).length = Z.1 := by simp [zcells]
  have hout : ∀ (k : Nat) (q : Nat × va_E), (W1 ++ W2)[k]? = some q → ∃ j, (W1 ++ (zcells Z g2 w ++ W2))[j]? = some q ∧ (j < W1.length ∨ W1.length + Z.1 ≤ j) := fun k q hk => by
    by_cases h : k < W1.length
    · rw [List.getElem?_append_left h] at hk
      exact ⟨k, by rw [List.getElem?_append_left h]; exact hk, Or.inl h⟩
    · rw [List.getElem?_append_right (by omega)] at hk
      refine ⟨k + Z.1, ?_, Or.inr (by omega)⟩
      rw [List.getElem?_append_right (by omega), List.getElem?_append_right (by omega), hlen, show k + Z.1 - W1.length - Z.1 = k - W1.length from by omega]
      exact hk
  have hzA : ∀ q, zA Z g2 q → ∃ (k : Nat) (x : Nat × va_E), (zcells Z g2 w)[k]? = some x ∧ x.1 = q ∧ k < Z.1 := fun q hq => by
    obtain ⟨k, h1, h2⟩ := hq
    exact ⟨k, _, zget Z g2 w h1, h2.symm, h1⟩
  refine ⟨fun k q hk => by rw [hg]; exact hP _ q (hin k q hk), ⟨fun i j p q hi hj e => by have := hD.1 _ _ p q (hin i p hi) (hin j q hj) e; omega, fun k q hk => ?_⟩, fun q hq => ?_, fun k q hk z => ?_, fun k q hk => ?_⟩
  · have h1 := (List.getElem?_eq_some_iff.mp hk).1
    rw [hlen] at h1
    rw [zget Z g2 w h1] at hk
    cases hk
    exact ⟨k, h1, rfl⟩
  · obtain ⟨k, x, h1, h2, -⟩ := hzA q hq
    rw [← h2]
    exact hD.2 _ x (hin k x h1)
  · obtain ⟨j, j1, j2⟩ := hout k q hk
    obtain ⟨k2, x, h1, h2, h3⟩ := hzA q.1 z
    have := hD.1 _ _ x q (hin k2 x h1) j1 h2
    omega
  · obtain ⟨j, j1, -⟩ := hout k q hk
    exact hP j q j1
theorem LW.mid2 {g g2 : Gh} {A : Nat → Prop} {W1 W2 : va_W} {Z : Shp} {w w2 : Wd} {H0 H H1 : Heap} {locs L : List Loc} (hg : g2.1 = g.1) (hL : LW g A (W1 ++ (zcells Z g2 w ++ W2)) H0 H locs) (hP1 : va_P g2.1 vwCl (zcells Z g2 w2) H1) (hz : H.size ≤ H1.size) (hk : ∀ q : Nat, q < H.size → ¬ zA Z g2 q → H1[q]? = H[q]?) (hl : ∀ q ∈ L, zA Z g2 q.base) : LW g A (W1 ++ (zcells Z g2 w2 ++ W2)) H0 H1 (locs ++ L) := by
  obtain ⟨m1, m2, m3, m4, m5⟩ := hL.mid hg
  obtain ⟨hP, hD, hS, hA⟩ := hL
  have hP2 : va_P g.1 vwCl (W1 ++ W2) H1 := m5.kept (fun k q hkq => hk q.1 ((m5 k q hkq).lt) (m4 k q hkq))
  refine ⟨fun k q hkq => ?_, va_D.re ?_ hD, ⟨Nat.le_trans hS.1 hz, fun q h1 h2 => by rw [hk q (Nat.lt_of_lt_of_le h1 hS.1) (fun z => h2 (m3 q z))]; exact hS.2.1 q h1 h2, fun q hq => ?_⟩, hA⟩
  · rcases List.mem_append.mp (List.mem_of_getElem? hkq) with h | h
    · obtain ⟨i, hi⟩ := List.getElem?_of_mem (List.mem_append_left W2 h)
      exact hP2 i q hi
    · rcases List.mem_append.mp h with h | h
      · obtain ⟨i, hi⟩ := List.getElem?_of_mem h
        rw [← hg]
        exact hP1 i q hi
      · obtain ⟨i, hi⟩ := List.getElem?_of_mem (List.mem_append_right W1 h)
        exact hP2 i q hi
  · rw [List.map_append, List.map_append, List.map_append, List.map_append, zcells_fst, zcells_fst]
  · rcases List.mem_append.mp hq with h | h
    · exact hS.2.2 q h
    · exact m3 _ (hl q h)
section CR2
variable {p : Program} {l : Launch} {e : Env} {R : Room} {s : State} {m : MethodId} {args : Array Value} {below : List Frame} {meth : Method} {c : Code} {H : Heap} {locs : List Loc} {cells slots : Nat} {Q : State → Prop}
variable {cc : ByteArray} {nL : Nat} {own : String} {g g2 : Gh} {pc : Nat} {ls : Array Slot} {rest : List Value} {A : Nat → Prop} {ws W1 W2 : va_W} {Z : Shp} {w : Wd}
theorem x_pc (X : AmC p s m args meth c cc nL own g) (hZ : ZSr A g s s.heap) (hg1 : g2.1 = g.1) (hg2 : g2.2.1 = g.2.1) (hg3 : ∀ k, 1000 ≤ k → g2.2.2 k = g.2.2 k) (hL : LW g A (W1 ++ (zcells Z g2 w ++ W2)) s.heap H locs) (As : List Value) : FrameBlind (Pcw Z g2 w As) ∧ ∀ U : State, U.heap = H → s.WarmedH U.vm → Pcw Z g2 w As As.toArray U := by
  obtain ⟨hx, hb, hml, hown, ht, hK, hN, -⟩ := X
  obtain ⟨m1, m2, m3, -⟩ := hL.mid hg1
  have hK2 : va_K g2.1 vwCl (ztys g2) s := by unfold ztys; rw [hg1, hg2]; exact hK
  refine ⟨fun a U g2 mk q => ?_, fun U hU hW => ⟨rfl, ?_⟩⟩
  · obtain ⟨q0, qP, qD, qK, qN, qZ⟩ := q
    exact ⟨q0, qP, qD, va_K.moved (u := U) (U := U.calling g2 mk a) (Vm.Alike.refl U.vm) qK, zz_same (u := U) (U := U.calling g2 mk a) rfl qN, ZS.same (u := U) (U := U.calling g2 mk a) (H := U.heap) rfl qZ⟩
  · exact ⟨by rw [hU]; exact m1, m2, va_K.moved hW.alike hK2, zz_warm hW hN, by rw [hU]; exact ZSr.zs (ZSr.warm hW (hZ.kept hL.2.2.1)) hg3 m3⟩
theorem x_run {rest2 : List Value} {st0 : List Value} {a : Array Value} {w2 : Wd} {v : Option Value} (hr : va_Run p l e R s m args below meth c H locs cells slots 0 0 (F0 m pc ls st0) rest2 (Qw Z g2 w2 v a) (zA Z g2)) (hg1 : g2.1 = g.1) (hL : LW g A (W1 ++ (zcells Z g2 w ++ W2)) s.heap H locs)
    (kk : ∀ (H : Heap) (locs : List Loc), LW g A (W1 ++ (zcells Z g2 w2 ++ W2)) s.heap H locs → W p l e R s m args below meth c H locs cells slots Q (F0 m (pc + 3) ls (v.toList ++ rest2))) : W p l e R s m args below meth c H locs cells slots Q (F0 m pc ls st0) := by
  intro T hT X
  obtain ⟨v2, st₀, t, T', L, h0, X', hLo, e1, e2, ⟨hv, hP, hz, hk⟩, st⟩ := hr T hT X
  cases hv
  rw [h0] at hz hk
  rw [← e1] at hP hz hk
  obtain ⟨t2, a1, b1⟩ := kk T'.heap (locs ++ L) (hL.mid2 hg1 hP hz hk hLo) T' rfl X'
  exact ⟨t2, st t2 a1, b1⟩
variable {y : MethodName} {bytes : ByteArray} {maxL d idx n k ci : Nat} {ret : Option FieldType} {As st0 : List Value} {w2 : Wd} {v : Option Value}
theorem x_callV (X : AmC p s m args meth c cc nL own g) (hZ : ZSr A g s s.heap) (hg1 : g2.1 = g.1) (hg2 : g2.2.1 = g.2.1) (hg3 : ∀ k, 1000 ≤ k → g2.2.2 k = g.2.2 k) (hL : LW g A (W1 ++ (zcells Z g2 w ++ W2)) s.heap H locs) (hM : Met l y (Cond.code y bytes maxL ret :: TT) (rmd d) (Pcw Z g2 w (.ref (g2.2.2 k) :: As)) (Qw Z g2 w2 v) 0 0 (zA Z g2)) (lk : MLk own idx y) (ms : MSt y bytes maxL ret n) (im : IMt y) (hk : zct Z k = ci) (cn : CNm ci y.cls)
    (hR : d + 1 ≤ R.frames ∧ 8 + (maxL + 11) + 40 * d ≤ R.locals) (hn : As.length = n) (hst : st0 = As.reverse ++ .ref (g2.2.2 k) :: rest) (hsz : ls.size = nL) (hW : (rest.map fun v => v.category).sum ≤ 8) (hdg : decode cc pc = .ok (.invokevirtual idx, 3)) (hf : cells + 0 ≤ R.cells ∧ slots + 0 ≤ R.slots) {st1 : List Value} (hs1 : v.toList ++ rest = st1)
    (kk : ∀ (H : Heap) (locs : List Loc), LW g A (W1 ++ (zcells Z g2 w2 ++ W2)) s.heap H locs → W p l e R s m args below meth c H locs cells slots Q (F0 m (pc + 3) ls st1)) : W p l e R s m args below meth c H locs cells slots Q (F0 m pc ls st0) := by
  subst hs1
  have hpc := x_pc X hZ hg1 hg2 hg3 hL (.ref (g2.2.2 k) :: As)
  obtain ⟨m0, -⟩ := hL.mid hg1
  obtain ⟨hx, hb, hml, hown, ht, hK, hN, hlk⟩ := id X
  obtain ⟨m1, m2, m3⟩ := ms
  obtain ⟨hci, q, hq, hqy⟩ := cn
  have he := zgetc Z g2 w hk (by omega)
  rw [zcl_obj Z g2 w k hci] at he
  have hK2 : va_K g2.1 vwCl (ztys g2) s := by unfold ztys; rw [hg1, hg2]; exact hK
  have hrec : ∃ cell : Cell, H[g2.2.2 k]? = some cell ∧ cell.vm.isStatics = false ∧ s.vm.findClass y.cls = some cell.cls := by rw [← hqy]; exact va_recv hK2 m0 hq he
  have hp : PreV s H y.cls (g2.2.2 k) (Pcw Z g2 w (.ref (g2.2.2 k) :: As)) As := ⟨hpc.1, hrec, hpc.2⟩
  rcases lk with lk | ⟨host, lk⟩
  · exact x_run (va_runV (As := As) (rest := rest) ⟨hx, hb, hml, hown, ht⟩ hM ⟨callB_of n ht (zz_good m1) rfl rfl rfl (ht _ m2) (ht _ lk) m3 hR, ht _ im.1, ht _ im.2⟩ hp rfl hn hsz hst (lv_room hW) hdg hf) hg1 hL kk
  · exact x_run (va_runVN (As := As) (rest := rest) (host := host) ⟨hx, hb, hml, hown, ht⟩ hM ⟨va_cnB n ht (zz_good m1) rfl rfl rfl (hN _ lk) (ht _ m2) m3 hR, ht _ im.1, ht _ im.2⟩ hp rfl hn hsz hst (lv_room hW) hdg hf) hg1 hL kk
theorem LW.set1 {k a : Nat} {x y : va_E} (hL : LW g A ws s.heap H locs) (he : ws[k]? = some (a, x)) (h : va_at g.1 vwCl (a, x) H → va_at g.1 vwCl (a, y) H) {ws2 : va_W} (hws : ws.set k (a, y) = ws2) : LW g A ws2 s.heap H locs := by
  subst hws
  obtain ⟨hP, hD, hS, hA⟩ := hL
  have hlt := (List.getElem?_eq_some_iff.mp he).1
  refine ⟨fun i q hi => ?_, va_D.re ?_ hD, hS, hA⟩
  · rw [List.getElem?_set] at hi
    by_cases h1 : k = i
    · subst h1
      rw [if_pos rfl, if_pos hlt] at hi
      cases hi
      exact h (hP k _ he)
    · rw [if_neg h1] at hi
      exact hP i q hi
  · refine List.ext_getElem? fun i => ?_
    rw [List.getElem?_map, List.getElem?_map, List.getElem?_set]
    by_cases h1 : k = i
    · subst h1
      rw [if_pos rfl, if_pos hlt, he]
      rfl
    · rw [if_neg h1]
end CR2
/-- a constructor that asks for E besides -/
def CtME (E : Nat → Nat → State → Prop) (l : Launch) (g : Gh) (y : MethodName) (cc : ByteArray) (nL d mc ms ci : Nat) (df : List Value) (As : List Value) (B : Nat → va_W → Prop) : Prop :=
  ∀ q0 sz, Met l y (Cond.code y cc nL none :: TT) { frames := d, cells := mc, slots := ms, locals := 40 * d } (fun v U => CtP g q0 ci df sz As v U ∧ E q0 sz U) (CtQ g q0 ci df sz (B q0)) mc ms (CtA q0 ci df sz)
section CS3
variable {l : Launch}
theorem ct_startE {E : Nat → Nat → State → Prop} {y : MethodName} {cc : ByteArray} {maxL d mc ms ci : Nat} {df As : List Value} {B : Nat → va_W → Prop} {g : Gh} (hy : plainName y.cls = true) (hyn : y.name = "<init>") (hlen : (lg_sl (As)).length + 1 ≤ maxL)
    (body : ∀ (q0 : Nat) (p : Program) (e : Env) (s : State) (m : MethodId) (args : Array Value) (below : List Frame) (meth : Method) (c : Code) (ls : Array Slot) (A : Nat → Prop), AmC p s m args meth c cc maxL y.cls g → E q0 s.heap.size s → meth.name = "<init>" → meth.sig.returnType = none → lv_has ls maxL (lv_args 0 (.ref q0 :: As)) → LW g A [(q0, .inr (ci, df))] s.heap s.heap [] → (∀ q, A q ↔ CtA q0 ci df s.heap.size q) →
      W p l e { frames := d, cells := mc, slots := ms, locals := 40 * d } s m args below meth c s.heap [] 0 0 (MQ below (CtQ g q0 ci df s.heap.size (B q0)) args s mc ms (CtA q0 ci df s.heap.size)) (F0 m 0 ls [])) : CtME E l g y cc maxL d mc ms ci df As B := by
  intro q0 sz
  refine Met.ofW (cc := cc) (maxL := maxL) (ret := none) hy rfl ?_
  intro p e s m args below meth c s₁ Bd hml hv
  obtain ⟨⟨rfl, hsz, hP, hK, hN⟩, hE⟩ := hv
  subst hsz
  have hts := atoms_spec (ws := Cond.code y cc maxL none :: TT) Bd.pre
  rw [lg_entry_eq]
  refine body q0 p e s m _ below meth c _ (CtA q0 ci df s.heap.size) ⟨Bd.exec, Bd.bytes, hml, findClass_of_methodNamed Bd.named, fun w hw => hts w (List.mem_cons_of_mem _ hw), hK, hN, Bd.notSynchronized⟩ hE ((name_of_methodNamed Bd.named Bd.method).1.trans hyn) Bd.returns (lv_entry (.ref q0 :: As) (by rw [show (lg_sl (.ref q0 :: As)).length = (lg_sl As).length + 1 from rfl]; exact hlen)) ⟨hP, ⟨fun i j p q hi hj _ => ?_, fun k q hk => va_A.in hk⟩, va_S.rf, fun q h => Or.inr h⟩ (fun _ => Iff.rfl)
  have h1 := (List.getElem?_eq_some_iff.mp hi).1
  have h2 := (List.getElem?_eq_some_iff.mp hj).1
  simp at h1 h2
  omega
end CS3
