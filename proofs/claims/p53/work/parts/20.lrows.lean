-- deps: 18 19
/-! Rows over a growing list of cells, for the law's methods and for the JDK's builder. -/
def ia (g : Gh) (N : Nat) (f : Nat → Int32) : va_E := .inl (g.2.1 0, N, .inl f)
def ba (g : Gh) (N : Nat) (f : Nat → Int32) : va_E := .inl (g.2.1 2, N, .inl f)
def ra (g : Gh) (N : Nat) (f : Nat → Nat) : va_E := .inl (g.2.1 3, N, .inr (.inr (.inr (.inr fun j => some (f j)))))
def wrA (f : Nat → Int32) (N : Nat) (i x : Int32) : Option (Nat → Int32) := if i < 0 ∨ N ≤ i.toNatClampNeg then none else some (upd f i.toNatClampNeg x)
/-- the class of int[][] and its component -/
def va_II (U : State) : Prop := ∃ (cA : ClassId) (kA : Class) (comp : ClassId), U.vm.classes[cA]? = some kA ∧ kA.kind = .array comp (.array .int) ∧ U.vm.findClass ("[" ++ FieldType.int.toString) = some comp ∧ U.vm.findClass ("[" ++ (FieldType.array .int).toString) = some cA
theorem va_II.moved {u U : State} (hvm : u.vm.Alike U.vm) (h : va_II u) : va_II U := by
  obtain ⟨cA, kA, comp, h1, h2, h3, h4⟩ := h
  obtain ⟨k', hk', he⟩ := hvm.2.2 _ _ h1
  exact ⟨cA, k', comp, hk', by rw [he]; exact h2, by rw [hvm.findClass]; exact h3, by rw [hvm.findClass]; exact h4⟩
/-- what the entry gives and nobody writes: the class's tables, the law's texts, the script -/
def ZX (Lx : Nat × (Nat → Int32)) (A : Nat → Prop) (g : Gh) (U : State) (H : Heap) : Prop := ZSr A g U H ∧ va_T .int (g.2.2 1002) Lx.1 (fun j => .int (Lx.2 j)) A U H ∧ va_Nw (.castable "[B" "java/lang/Cloneable") U ∧ va_II U
theorem ZSr.nar {A B : Nat → Prop} {g : Gh} {U : State} {H : Heap} (h : ZSr A g U H) (hA : ∀ q, B q → A q) : ZSr B g U H := by
  obtain ⟨⟨h1, h2⟩, ⟨h3, h4⟩, h5, h6, h7, h8⟩ := h
  exact ⟨⟨h1.narrow hA, h2.narrow hA⟩, ⟨h3.narrow hA, h4.narrow hA⟩, h5.narrow hA, h6, h7.narrow hA, h8.narrow hA⟩
theorem ZX.kept {Lx : Nat × (Nat → Int32)} {A : Nat → Prop} {g : Gh} {U : State} {H H1 : Heap} {locs : List Loc} (hS : va_S A H H1 locs) (h : ZX Lx A g U H) : ZX Lx A g U H1 := ⟨h.1.kept hS, h.2.1.kept hS.2.1, h.2.2⟩
theorem ZX.warm {Lx : Nat × (Nat → Int32)} {A : Nat → Prop} {g : Gh} {s U : State} {H : Heap} (hW : s.WarmedH U.vm) (h : ZX Lx A g s H) : ZX Lx A g U H := ⟨h.1.warm hW, va_T.moved hW.alike h.2.1, va_Nw.warmC hW h.2.2.1, h.2.2.2.moved hW.alike⟩
theorem ZX.same {Lx : Nat × (Nat → Int32)} {A : Nat → Prop} {g : Gh} {u U : State} {H : Heap} (hv : U.vm = u.vm) (h : ZX Lx A g u H) : ZX Lx A g U H := by
  have hvm : u.vm.Alike U.vm := by rw [hv]; exact Vm.Alike.refl _
  exact ⟨h.1.same hv, va_T.moved hvm h.2.1, va_Nw.same rfl hv.symm h.2.2.1, h.2.2.2.moved hvm⟩
theorem ZX.nar {Lx : Nat × (Nat → Int32)} {A B : Nat → Prop} {g : Gh} {U : State} {H : Heap} (h : ZX Lx A g U H) (hA : ∀ q, B q → A q) : ZX Lx B g U H := ⟨h.1.nar hA, h.2.1.narrow hA, h.2.2⟩
/-- a contract over a list of cells: the cells ws before, a list nb with B behind -/
def LPc (Lx : Nat × (Nat → Int32)) (g : Gh) (ws : va_W) (sz : Nat) (As : List Value) : Array Value → State → Prop := va_Pc As (fun U => U.heap.size = sz ∧ va_P g.1 vwCl ws U.heap ∧ va_D (va_A ws sz) ws ∧ va_K g.1 vwCl (ztys g) U ∧ (∀ w ∈ NL, va_Nw w U) ∧ ZX Lx (va_A ws sz) g U U.heap)
def LQc (g : Gh) (ws : va_W) (sz : Nat) (B : Option Value → va_W → Prop) : Array Value → State → Outcome → State → Prop := fun _ st o t => (∃ v nb, o = .returned v ∧ B v nb ∧ va_P g.1 vwCl nb t.heap ∧ va_D (va_A ws sz) nb) ∧ va_F (va_A ws sz) st t
def LMt (l : Launch) (Lx : Nat × (Nat → Int32)) (g : Gh) (y : MethodName) (cc : ByteArray) (nL : Nat) (ret : Option FieldType) (d mc ms : Nat) (ws : va_W) (As : List Value) (B : Option Value → va_W → Prop) : Prop :=
  ∀ sz, Met l y (Cond.code y cc nL ret :: TT) { frames := d, cells := mc, slots := ms, locals := 40 * d } (LPc Lx g ws sz As) (LQc g ws sz B) mc ms (va_A ws sz)
theorem LPc.blind {Lx : Nat × (Nat → Int32)} {g : Gh} {ws : va_W} {sz : Nat} {As : List Value} : FrameBlind (LPc Lx g ws sz As) := fun a U g2 mk q => by
  obtain ⟨q0, q1, q2, q3, q4, q5, q6⟩ := q
  exact ⟨q0, q1, q2, q3, va_K.moved (u := U) (U := U.calling g2 mk a) (Vm.Alike.refl U.vm) q4, zz_same (u := U) (U := U.calling g2 mk a) rfl q5, ZX.same (u := U) (U := U.calling g2 mk a) (H := U.heap) rfl q6⟩
theorem va_A.sub {ws : va_W} {sz q : Nat} (h : va_A ws sz q) {A : Nat → Prop} (hD : ∀ (k : Nat) (x : Nat × va_E), ws[k]? = some x → A x.1) (hA : ∀ q, sz ≤ q → A q) : A q := by
  rcases h with ⟨k, e, h⟩ | h
  · exact hD k _ h
  · exact hA q h
section LR
variable {p : Program} {l : Launch} {e : Env} {R : Room} {s : State} {m : MethodId} {args : Array Value} {below : List Frame} {meth : Method} {c : Code} {H : Heap} {locs : List Loc} {cells slots : Nat} {Q : State → Prop}
variable {cc : ByteArray} {nL : Nat} {own : String} {g g2 : Gh} {pc : Nat} {ls : Array Slot} {rest : List Value} {A : Nat → Prop} {ws W1 W2 : va_W} {Z : Shp} {w : Wd} {Lx : Nat × (Nat → Int32)}
theorem x_iald (X : AmC p s m args meth c cc nL own g) (hL : LW g A ws s.heap H locs) {k a N : Nat} {f : Nat → Int32} (he : ws[k]? = some (a, ia g N f)) {i x : Int32} (h : rdS f N i = some x) (hdg : decode cc pc = .ok (.iaload, 1))
    (kk : W p l e R s m args below meth c H locs cells slots Q (F0 m (pc + 1) ls (.int x :: rest))) : W p l e R s m args below meth c H locs cells slots Q (F0 m pc ls (.int i :: .ref a :: rest)) := by
  obtain ⟨h1, h2⟩ := rd_in (a := x) h
  cases h2
  exact va_iald X.1 X.2.1 X.2.2.2.2.2.1 hL.1 k 0 he rfl h1 hdg kk
theorem x_iast (X : AmC p s m args meth c cc nL own g) (hL : LW g A ws s.heap H locs) {k a N : Nat} {f f2 : Nat → Int32} (he : ws[k]? = some (a, ia g N f)) {i x : Int32} (h : wrA f N i x = some f2) (hdg : decode cc pc = .ok (.iastore, 1)) {ws2 : va_W} (hws : ws.set k (a, ia g N f2) = ws2)
    (kk : ∀ (H : Heap) (locs : List Loc), LW g A ws2 s.heap H locs → W p l e R s m args below meth c H locs cells slots Q (F0 m (pc + 1) ls rest)) : W p l e R s m args below meth c H locs cells slots Q (F0 m pc ls (.int x :: .int i :: .ref a :: rest)) := by
  obtain ⟨h1, h2⟩ := rd_in (a := f2) h
  cases h2
  subst hws
  exact va_iast X.1 X.2.1 X.2.2.2.2.2.1 hL.1 hL.2.1 hL.2.2.1 k 0 he rfl h1 hdg (fun H1 locs1 a1 a2 a3 => kk H1 locs1 ⟨a1, a2, a3, hL.2.2.2⟩)
theorem x_bald (X : AmC p s m args meth c cc nL own g) (hL : LW g A ws s.heap H locs) {k a N : Nat} {f : Nat → Int32} (he : ws[k]? = some (a, ba g N f)) {i x : Int32} (h : rdS f N i = some x) (hdg : decode cc pc = .ok (.baload, 1))
    (kk : W p l e R s m args below meth c H locs cells slots Q (F0 m (pc + 1) ls (.int x :: rest))) : W p l e R s m args below meth c H locs cells slots Q (F0 m pc ls (.int i :: .ref a :: rest)) := by
  obtain ⟨h1, h2⟩ := rd_in (a := x) h
  cases h2
  exact va_bald X.1 X.2.1 X.2.2.2.2.2.1 hL.1 k 2 he rfl h1 hdg kk
theorem x_bast (X : AmC p s m args meth c cc nL own g) (hL : LW g A ws s.heap H locs) {k a N : Nat} {f f2 : Nat → Int32} (he : ws[k]? = some (a, ba g N f)) {i x : Int32} (h : wrA f N i (jbyte x) = some f2) (hdg : decode cc pc = .ok (.bastore, 1)) {ws2 : va_W} (hws : ws.set k (a, ba g N f2) = ws2)
    (kk : ∀ (H : Heap) (locs : List Loc), LW g A ws2 s.heap H locs → W p l e R s m args below meth c H locs cells slots Q (F0 m (pc + 1) ls rest)) : W p l e R s m args below meth c H locs cells slots Q (F0 m pc ls (.int x :: .int i :: .ref a :: rest)) := by
  obtain ⟨h1, h2⟩ := rd_in (a := f2) h
  cases h2
  subst hws
  refine va_bast X.1 X.2.1 X.2.2.2.2.2.1 hL.1 hL.2.1 hL.2.2.1 k 2 he rfl h1 hdg (fun H1 locs1 a1 a2 a3 => ?_)
  rw [vp_nar_byte] at a1 a2
  exact kk H1 locs1 ⟨a1, a2, a3, hL.2.2.2⟩
theorem x_alenI (X : AmC p s m args meth c cc nL own g) (hL : LW g A ws s.heap H locs) {k a N : Nat} {f : Nat → Int32} (he : ws[k]? = some (a, ia g N f)) (hdg : decode cc pc = .ok (.arraylength, 1))
    (kk : W p l e R s m args below meth c H locs cells slots Q (F0 m (pc + 1) ls (.int (nI N) :: rest))) : W p l e R s m args below meth c H locs cells slots Q (F0 m pc ls (.ref a :: rest)) :=
  va_alen X.1 X.2.1 X.2.2.2.2.2.1 hL.1 k 0 he (ty := .int) rfl rfl hdg kk
theorem x_alenB (X : AmC p s m args meth c cc nL own g) (hL : LW g A ws s.heap H locs) {k a N : Nat} {f : Nat → Int32} (he : ws[k]? = some (a, ba g N f)) (hdg : decode cc pc = .ok (.arraylength, 1))
    (kk : W p l e R s m args below meth c H locs cells slots Q (F0 m (pc + 1) ls (.int (nI N) :: rest))) : W p l e R s m args below meth c H locs cells slots Q (F0 m pc ls (.ref a :: rest)) :=
  va_alen X.1 X.2.1 X.2.2.2.2.2.1 hL.1 k 2 he (ty := .byte) rfl rfl hdg kk
theorem x_aald (X : AmC p s m args meth c cc nL own g) (hL : LW g A ws s.heap H locs) {k a N : Nat} {f : Nat → Nat} (he : ws[k]? = some (a, ra g N f)) {i : Int32} {j : Nat} (h : rdS (fun q => q) N i = some j) (hdg : decode cc pc = .ok (.aaload, 1))
    (kk : W p l e R s m args below meth c H locs cells slots Q (F0 m (pc + 1) ls (.ref (f j) :: rest))) : W p l e R s m args below meth c H locs cells slots Q (F0 m pc ls (.int i :: .ref a :: rest)) := by
  obtain ⟨h1, h2⟩ := rd_in (a := j) h
  cases h2
  have hlt : i.toNatClampNeg < N := Nat.not_le.mp fun q => h1 (Or.inr q)
  exact W.aald (v := .ref (f i.toNatClampNeg)) (ty := .array .int) X.1 X.2.1 (hL.1 k _ he) ((X.2.2.2.2.2.1.2 3 (g.2.1 3, .array .int) rfl).1 N (fun j => .ref (f j))) rfl (fun q => by cases q) (by show ¬ (i < 0 ∨ (arrV _ _ _).slots.size ≤ _); rw [arrV_size]; exact h1) (by show (arrV _ _ _).slots[_]? = _; rw [arrV_read _ _ hlt]; rfl) rfl rfl hdg kk
/-- a field of an object of the list -/
theorem x_get (X : AmC p s m args meth c cc nL own g) (hL : LW g A ws s.heap H locs) {ci k idx a j : Nat} {fs : List Value} {v : Value} {q : vw_C} (he : ws[j]? = some (a, .inr (ci, fs))) (hq : vwCl[ci]? = some q) (hcs : CSt ci) (hk : k < q.2.2) (hlink : Cond.fieldLink own idx (q.2.1 k).1 (q.2.1 k).2.1 (q.2.1 k).2.2.1 ∈ TT) (hv : fs[k]? = some v) (hdg : decode cc pc = .ok (.getfield idx, 3))
    (kk : W p l e R s m args below meth c H locs cells slots Q (F0 m (pc + 3) ls (v :: rest))) : W p l e R s m args below meth c H locs cells slots Q (F0 m pc ls (.ref a :: rest)) := by
  obtain ⟨hx, hb, hml, hown, ht, hK, hN, hlk⟩ := X
  obtain ⟨hP, hD, hS, hA⟩ := hL
  obtain ⟨q2, hq2, hci, hn2, hin, ⟨ty0, hty⟩, hnm⟩ := hcs
  have e2 : q2 = q := Option.some.inj (hq2.symm.trans hq)
  subst e2
  exact va_get hx hb ht hin hown hK hP j he hq k hk (ht _ hlink) (fun x h => h) hv hdg kk
/-- a field that isn't final, of the class that declares it -/
theorem x_putD (X : AmC p s m args meth c cc nL own g) (hL : LW g A ws s.heap H locs) {ci k idx a j : Nat} {fs : List Value} {v : Value} {q : vw_C} {ty : FieldType} (he : ws[j]? = some (a, .inr (ci, fs))) (hq : vwCl[ci]? = some q) (hcs : CSt ci) (hk : k < q.2.2) (hlink : Cond.fieldLink own idx (q.2.1 k).1 (q.2.1 k).2.1 (q.2.1 k).2.2.1 ∈ TT) (hfin : (q.2.1 k).2.2.2 = false)
    (hd : parseFieldDescriptor (q.2.1 k).2.2.1 = some ty) (hn : narrow ty v = v) (hfit : fits ty v = true) (hl : k < fs.length) {ws2 : va_W} (hws : ws.set j (a, .inr (ci, fs.set k v)) = ws2) (hdg : decode cc pc = .ok (.putfield idx, 3))
    (kk : ∀ (H1 : Heap) (locs1 : List Loc), LW g A ws2 s.heap H1 locs1 → W p l e R s m args below meth c H1 locs1 cells slots Q (F0 m (pc + 3) ls rest)) : W p l e R s m args below meth c H locs cells slots Q (F0 m pc ls (v :: .ref a :: rest)) := by
  obtain ⟨hx, hb, hml, hown, ht, hK, hN, hlk⟩ := X
  obtain ⟨hP, hD, hS, hA⟩ := hL
  obtain ⟨q2, hq2, hci, hn2, hin, ⟨ty0, hty⟩, hnm⟩ := hcs
  have e2 : q2 = q := Option.some.inj (hq2.symm.trans hq)
  subst e2
  subst hws
  exact va_put hx hb ht hin ty0 hty hnm hown hK hP hD hS j he hq k hk (ht _ hlink) (fun x h => h) hfin hd hn hfit hl hdg (fun H1 locs1 a1 a2 a3 => kk H1 locs1 ⟨a1, a2, a3, hA⟩)
/-- the newest cell goes to the front -/
theorem LW.front {x : Nat × va_E} (hL : LW g A (ws ++ [x]) s.heap H locs) : LW g A (x :: ws) s.heap H locs := by
  obtain ⟨hP, hD, hS, hA⟩ := hL
  have key : ∀ (k : Nat) (q : Nat × va_E), (x :: ws)[k]? = some q → ∃ j, (ws ++ [x])[j]? = some q ∧ (k = 0 → j = ws.length) ∧ (k ≠ 0 → j + 1 = k) ∧ (k ≠ 0 → j < ws.length) := fun k q hk => by
    cases k with
    | zero =>
      refine ⟨ws.length, ?_, fun _ => rfl, fun h => absurd rfl h, fun h => absurd rfl h⟩
      rw [List.getElem?_append_right (Nat.le_refl _), Nat.sub_self]
      exact hk
    | succ k =>
      have hk : ws[k]? = some q := hk
      have hlt := (List.getElem?_eq_some_iff.mp hk).1
      exact ⟨k, by rw [List.getElem?_append_left hlt]; exact hk, fun h => by omega, fun _ => rfl, fun _ => hlt⟩
  refine ⟨fun k q hk => ?_, ⟨fun i j p q hi hj e => ?_, fun k q hk => ?_⟩, hS, hA⟩
  · obtain ⟨j, h, -⟩ := key k q hk
    exact hP j q h
  · obtain ⟨i2, a1, a2, a3, a4⟩ := key i p hi
    obtain ⟨j2, b1, b2, b3, b4⟩ := key j q hj
    have e2 := hD.1 i2 j2 p q a1 b1 e
    by_cases h1 : i = 0 <;> by_cases h2 : j = 0
    · omega
    · have := a2 h1; have := b4 h2; omega
    · have := b2 h2; have := a4 h1; omega
    · have := a3 h1; have := b3 h2; omega
  · obtain ⟨j, h, -⟩ := key k q hk
    exact hD.2 j q h
/-- a list of some of the cells, each once -/
theorem LW.nodup (hL : LW g A ws s.heap H locs) : (ws.map Prod.fst).Nodup := by
  rw [List.nodup_iff_pairwise_ne, List.pairwise_iff_getElem]
  intro i j hi hj hij e
  simp only [List.length_map] at hi hj
  have h2 := hL.2.1.1 i j _ _ (List.getElem?_eq_getElem hi) (List.getElem?_eq_getElem hj) (by simpa using e)
  omega
theorem LW.pick {ws2 : va_W} (hL : LW g A ws s.heap H locs) (h : ∀ x ∈ ws2, x ∈ ws) (nd2 : (ws2.map Prod.fst).Nodup) : LW g A ws2 s.heap H locs := by
  obtain ⟨hP, hD, hS, hA⟩ := hL
  refine ⟨fun k q hk => ?_, ⟨fun i j p q hi hj e => ?_, fun k q hk => ?_⟩, hS, hA⟩
  · obtain ⟨j, hj⟩ := List.getElem?_of_mem (h _ (List.mem_of_getElem? hk))
    exact hP j q hj
  · have a1 := (List.getElem?_eq_some_iff.mp hi)
    have b1 := (List.getElem?_eq_some_iff.mp hj)
    obtain ⟨a1, a2⟩ := a1
    obtain ⟨b1, b2⟩ := b1
    have nd3 := List.pairwise_iff_getElem.mp (List.nodup_iff_pairwise_ne.mp nd2)
    have ei : (ws2.map Prod.fst)[i]'(by simpa using a1) = p.1 := by simp [a2]
    have ej : (ws2.map Prod.fst)[j]'(by simpa using b1) = q.1 := by simp [b2]
    rcases Nat.lt_trichotomy i j with h1 | h1 | h1
    · exact absurd (ei.trans (e.trans ej.symm)) (nd3 i j _ _ h1)
    · exact h1
    · exact absurd (ej.trans (e.symm.trans ei.symm)) (nd3 j i _ _ h1)
  · obtain ⟨j, hj⟩ := List.getElem?_of_mem (h _ (List.mem_of_getElem? hk))
    exact hD.2 j q hj
theorem LW.perm {ws2 : va_W} (hL : LW g A ws s.heap H locs) (h : ws2.Perm ws) : LW g A ws2 s.heap H locs :=
  hL.pick (fun x hx => h.mem_iff.mp hx) ((h.map Prod.fst).nodup_iff.mpr hL.nodup)
theorem LW.subl {ws2 : va_W} (hL : LW g A ws s.heap H locs) (h : ws2.Sublist ws) : LW g A ws2 s.heap H locs :=
  hL.pick (fun x hx => h.subset hx) ((h.map Prod.fst).nodup hL.nodup)
/-- a callee's cells come back beside the rest -/
theorem LW.join2 {nb : va_W} {H1 : Heap} {locs1 : List Loc} (hL : LW g A (W1 ++ ws) s.heap H locs) (hz : H.size ≤ H1.size) (hk : ∀ q : Nat, q < H.size → ¬ va_A ws H.size q → H1[q]? = H[q]?) (hP : va_P g.1 vwCl nb H1) (hD : va_D (va_A ws H.size) nb) (hl : ∀ q ∈ locs1, va_A ws H.size q.base) : LW g A (W1 ++ nb) s.heap H1 (locs ++ locs1) := by
  obtain ⟨p1, d1, s1, hA⟩ := hL
  have hin : ∀ (k : Nat) (q : Nat × va_E), W1[k]? = some q → (W1 ++ ws)[k]? = some q := fun k q hk => by
    rw [List.getElem?_append_left (List.getElem?_eq_some_iff.mp hk).1]; exact hk
  have hin2 : ∀ (k : Nat) (q : Nat × va_E), ws[k]? = some q → (W1 ++ ws)[W1.length + k]? = some q := fun k q hk => by
    rw [List.getElem?_append_right (by omega), show W1.length + k - W1.length = k by omega]; exact hk
  have old : ∀ (k : Nat) (q : Nat × va_E), W1[k]? = some q → q.1 < H.size ∧ ¬ va_A ws H.size q.1 := fun k q hq => by
    have h1 := (p1 k q (hin k q hq)).lt
    refine ⟨h1, fun z => ?_⟩
    rcases z with ⟨k2, e2, h2⟩ | h2
    · have := d1.1 k _ q (q.1, e2) (hin k q hq) (hin2 k2 _ h2) rfl
      have h3 := (List.getElem?_eq_some_iff.mp hq).1
      omega
    · omega
  have aIn : ∀ q, va_A ws H.size q → A q := fun q z => by
    rcases z with ⟨k2, e2, h2⟩ | h2
    · exact d1.2 _ _ (hin2 k2 _ h2)
    · exact hA q (Nat.le_trans s1.1 h2)
  refine ⟨va_P.app (fun k q hkq => (p1 k q (hin k q hkq)).kept (hk _ (old k q hkq).1 (old k q hkq).2)) hP, ⟨fun i j p q hi hj e => ?_, fun k q hkq => ?_⟩, ⟨Nat.le_trans s1.1 hz, fun q h1 h2 => by rw [hk q (Nat.lt_of_lt_of_le h1 s1.1) (fun z => h2 (aIn q z))]; exact s1.2.1 q h1 h2, fun q hq => ?_⟩, hA⟩
  · by_cases h1 : i < W1.length
    · rw [List.getElem?_append_left h1] at hi
      by_cases h2 : j < W1.length
      · rw [List.getElem?_append_left h2] at hj
        exact d1.1 i j p q (hin i p hi) (hin j q hj) e
      · rw [List.getElem?_append_right (by omega)] at hj
        exact absurd (by rw [e]; exact hD.2 _ q hj) (old i p hi).2
    · rw [List.getElem?_append_right (by omega)] at hi
      by_cases h2 : j < W1.length
      · rw [List.getElem?_append_left h2] at hj
        exact absurd (by rw [← e]; exact hD.2 _ p hi) (old j q hj).2
      · rw [List.getElem?_append_right (by omega)] at hj
        have := hD.1 _ _ p q hi hj e
        omega
  · by_cases h1 : k < W1.length
    · rw [List.getElem?_append_left h1] at hkq
      exact d1.2 k q (hin k q hkq)
    · rw [List.getElem?_append_right (by omega)] at hkq
      exact aIn _ (hD.2 _ q hkq)
  · rcases List.mem_append.mp hq with h | h
    · exact s1.2.2 q h
    · exact aIn _ (hl q h)
/-- what a call over the end of the list may ask for -/
theorem x_lpc (X : AmC p s m args meth c cc nL own g) (hZ : ZX Lx A g s s.heap) (hL : LW g A (W1 ++ ws) s.heap H locs) (As : List Value) : ∀ U : State, U.heap = H → s.WarmedH U.vm → LPc Lx g ws H.size As As.toArray U := fun U hU hW => by
  obtain ⟨hx, hb, hml, hown, ht, hK, hN, hlk⟩ := X
  obtain ⟨hP, hD, hS, hA⟩ := hL
  have hin2 : ∀ (k : Nat) (q : Nat × va_E), ws[k]? = some q → (W1 ++ ws)[W1.length + k]? = some q := fun k q hk => by
    rw [List.getElem?_append_right (by omega), show W1.length + k - W1.length = k by omega]; exact hk
  refine ⟨rfl, by rw [hU], fun k q hk => by rw [hU]; exact hP _ q (hin2 k q hk), ⟨fun i j p q hi hj e => by have := hD.1 _ _ p q (hin2 i p hi) (hin2 j q hj) e; omega, fun k q hk => Or.inl ⟨k, q.2, hk⟩⟩, va_K.moved hW.alike hK, zz_warm hW hN, ?_⟩
  rw [hU]
  exact (ZX.warm hW (hZ.kept hS)).nar (fun q h => va_A.sub h (fun k x hk => hD.2 _ x (hin2 k x hk)) (fun q hq => hA q (Nat.le_trans hS.1 hq)))
theorem x_runL {rest2 st0 : List Value} {a : Array Value} {mc ms : Nat} {B : Option Value → va_W → Prop} {st : JFrame} (hr : va_Run p l e R s m args below meth c H locs cells slots mc ms (F0 m pc ls st0) rest2 (LQc g ws H.size B a) (va_A ws H.size)) (hL : LW g A (W1 ++ ws) s.heap H locs)
    (kk : ∀ (v : Option Value) (nb : va_W) (H : Heap) (locs : List Loc), B v nb → LW g A (W1 ++ nb) s.heap H locs → W p l e R s m args below meth c H locs (cells + mc) (slots + ms) Q (F0 m (pc + 3) ls (v.toList ++ rest2))) : W p l e R s m args below meth c H locs cells slots Q (F0 m pc ls st0) := by
  intro T hT X
  obtain ⟨v2, st₀, t, T', L, h0, X', hLo, e1, e2, ⟨⟨v, nb, hv, hB, hP, hD⟩, hz, hk⟩, st⟩ := hr T hT X
  cases hv
  rw [h0] at hz hk
  rw [← e1] at hP hz hk
  obtain ⟨t2, a1, b1⟩ := kk v2 nb T'.heap (locs ++ L) hB (hL.join2 hz hk hP hD hLo) T' rfl X'
  exact ⟨t2, st t2 a1, b1⟩
variable {y : MethodName} {bytes : ByteArray} {maxL d mc ms idx n : Nat} {ret : Option FieldType} {As st0 : List Value} {B : Option Value → va_W → Prop}
theorem x_callLS (X : AmC p s m args meth c cc nL own g) (hZ : ZX Lx A g s s.heap) (W1 ws : va_W) (hL : LW g A (W1 ++ ws) s.heap H locs) (hM : LMt l Lx g y bytes maxL ret d mc ms ws As B) (lk : Cond.methodLink own idx y ∈ TT) (hm : MSt y bytes maxL ret n) (im : Cond.static y ∈ TT)
    (hR : d + 1 ≤ R.frames ∧ 8 + (maxL + 11) + 40 * d ≤ R.locals) (hn : As.length = n) (hst : st0 = As.reverse ++ rest) (hsz : ls.size = nL) (hW : (rest.map fun v => v.category).sum ≤ 8) (hdg : decode cc pc = .ok (.invokestatic idx, 3)) (hf : cells + mc ≤ R.cells ∧ slots + ms ≤ R.slots)
    (kk : ∀ (v : Option Value) (nb : va_W) (H : Heap) (locs : List Loc), B v nb → LW g A (W1 ++ nb) s.heap H locs → W p l e R s m args below meth c H locs (cells + mc) (slots + ms) Q (F0 m (pc + 3) ls (v.toList ++ rest))) : W p l e R s m args below meth c H locs cells slots Q (F0 m pc ls st0) := by
  have hpc := x_lpc X hZ hL As
  obtain ⟨hx, hb, hml, hown, ht, hK, hN, hlk⟩ := X
  obtain ⟨m1, m2, m3⟩ := hm
  exact x_runL (st := F0 m pc ls st0) (va_runS (As := As) (rest := rest) ⟨hx, hb, hml, hown, ht⟩ (hM H.size) ⟨callB_of n ht (zz_good m1) rfl rfl rfl (ht _ m2) (ht _ lk) m3 hR, ht _ im⟩ ⟨LPc.blind, hpc⟩ rfl hn hsz hst (lv_room hW) hdg hf) hL kk
/-- a call on an object a of the list (class ci) -/
theorem x_recvL (X : AmC p s m args meth c cc nL own g) (hL : LW g A (W1 ++ ws) s.heap H locs) {j a ci : Nat} {fs : List Value} {q : vw_C} (he : ws[j]? = some (a, .inr (ci, fs))) (hq : vwCl[ci]? = some q) : ∃ cell : Cell, H[a]? = some cell ∧ cell.vm.isStatics = false ∧ s.vm.findClass q.1 = some cell.cls := by
  obtain ⟨hx, hb, hml, hown, ht, hK, hN, hlk⟩ := X
  refine va_recv (q0 := W1.length + j) (fs := fs) hK hL.1 hq ?_
  rw [List.getElem?_append_right (by omega), show W1.length + j - W1.length = j by omega]
  exact he
theorem x_callLV (X : AmC p s m args meth c cc nL own g) (hZ : ZX Lx A g s s.heap) (W1 ws : va_W) (hL : LW g A (W1 ++ ws) s.heap H locs) {a : Nat} {C : String} (hM : LMt l Lx g y bytes maxL ret d mc ms ws (.ref a :: As) B) (lk : Cond.methodLink own idx y ∈ TT) (hm : MSt y bytes maxL ret n) (im1 : Cond.instanceMethod y ∈ TT) (im2 : Cond.selects C y y ∈ TT) (hrec : ∃ cell : Cell, H[a]? = some cell ∧ cell.vm.isStatics = false ∧ s.vm.findClass C = some cell.cls)
    (hR : d + 1 ≤ R.frames ∧ 8 + (maxL + 11) + 40 * d ≤ R.locals) (hn : As.length = n) (hst : st0 = As.reverse ++ .ref a :: rest) (hsz : ls.size = nL) (hW : (rest.map fun v => v.category).sum ≤ 8) (hdg : decode cc pc = .ok (.invokevirtual idx, 3)) (hf : cells + mc ≤ R.cells ∧ slots + ms ≤ R.slots)
    (kk : ∀ (v : Option Value) (nb : va_W) (H : Heap) (locs : List Loc), B v nb → LW g A (W1 ++ nb) s.heap H locs → W p l e R s m args below meth c H locs (cells + mc) (slots + ms) Q (F0 m (pc + 3) ls (v.toList ++ rest))) : W p l e R s m args below meth c H locs cells slots Q (F0 m pc ls st0) := by
  have hpc := x_lpc X hZ hL (.ref a :: As)
  obtain ⟨hx, hb, hml, hown, ht, hK, hN, hlk⟩ := X
  obtain ⟨m1, m2, m3⟩ := hm
  exact x_runL (st := F0 m pc ls st0) (va_runV (C := C) (As := As) (rest := rest) ⟨hx, hb, hml, hown, ht⟩ (hM H.size) ⟨callB_of n ht (zz_good m1) rfl rfl rfl (ht _ m2) (ht _ lk) m3 hR, ht _ im1, ht _ im2⟩ ⟨LPc.blind, hrec, hpc⟩ rfl hn hsz hst (lv_room hW) hdg hf) hL kk
/-- invokespecial of a constructor -/
theorem x_callLI (X : AmC p s m args meth c cc nL own g) (hZ : ZX Lx A g s s.heap) (W1 ws : va_W) (hL : LW g A (W1 ++ ws) s.heap H locs) {a : Nat} (hM : LMt l Lx g y bytes maxL none d mc ms ws (.ref a :: As) B) (lk : Cond.methodLink own idx y ∈ TT) (hm : MSt y bytes maxL none n) (im1 : Cond.instanceMethod y ∈ TT) (hy : y.name = "<init>")
    (hR : d + 1 ≤ R.frames ∧ 8 + (maxL + 11) + 40 * d ≤ R.locals) (hn : As.length = n) (hst : st0 = As.reverse ++ .ref a :: rest) (hsz : ls.size = nL) (hW : (rest.map fun v => v.category).sum ≤ 8) (hdg : decode cc pc = .ok (.invokespecial idx, 3)) (hf : cells + mc ≤ R.cells ∧ slots + ms ≤ R.slots)
    (kk : ∀ (v : Option Value) (nb : va_W) (H : Heap) (locs : List Loc), B v nb → LW g A (W1 ++ nb) s.heap H locs → W p l e R s m args below meth c H locs (cells + mc) (slots + ms) Q (F0 m (pc + 3) ls (v.toList ++ rest))) : W p l e R s m args below meth c H locs cells slots Q (F0 m pc ls st0) := by
  have hpc := x_lpc X hZ hL (.ref a :: As)
  obtain ⟨hx, hb, hml, hown, ht, hK, hN, hlk⟩ := X
  obtain ⟨m1, m2, m3⟩ := hm
  exact x_runL (st := F0 m pc ls st0) (va_runI (As := As) (rest := rest) ⟨hx, hb, hml, hown, ht⟩ (hM H.size) ⟨callB_of n ht (zz_good m1) rfl rfl rfl (ht _ m2) (ht _ lk) m3 hR, hy, ht _ im1⟩ ⟨LPc.blind, hpc⟩ rfl hn hsz hst (lv_room hW) hdg hf) hL kk
/-- invokevirtual of a method that the receiver's class C inherits (or overrides by y) -/
theorem x_callLU (X : AmC p s m args meth c cc nL own g) (hZ : ZX Lx A g s s.heap) (W1 ws : va_W) (hL : LW g A (W1 ++ ws) s.heap H locs) {a : Nat} {C owner : String} {x : MethodName} (hM : LMt l Lx g y bytes maxL ret d mc ms ws (.ref a :: As) B) (cw : va_CU R s args own C owner idx x y bytes maxL ret (Cond.code y bytes maxL ret :: TT) { frames := d, cells := mc, slots := ms, locals := 40 * d } mc ms n) (hrec : ∃ cell : Cell, H[a]? = some cell ∧ cell.vm.isStatics = false ∧ s.vm.findClass C = some cell.cls)
    (hn : As.length = n) (hst : st0 = As.reverse ++ .ref a :: rest) (hsz : ls.size = nL) (hW : (rest.map fun v => v.category).sum ≤ 8) (hdg : decode cc pc = .ok (.invokevirtual idx, 3)) (hf : cells + mc ≤ R.cells ∧ slots + ms ≤ R.slots)
    (kk : ∀ (v : Option Value) (nb : va_W) (H : Heap) (locs : List Loc), B v nb → LW g A (W1 ++ nb) s.heap H locs → W p l e R s m args below meth c H locs (cells + mc) (slots + ms) Q (F0 m (pc + 3) ls (v.toList ++ rest))) : W p l e R s m args below meth c H locs cells slots Q (F0 m pc ls st0) := by
  have hpc := x_lpc X hZ hL (.ref a :: As)
  obtain ⟨hx, hb, hml, hown, ht, hK, hN, hlk⟩ := X
  exact x_runL (st := F0 m pc ls st0) (va_runU (C := C) (As := As) (rest := rest) ⟨hx, hb, hml, hown, ht⟩ (hM H.size) cw ⟨LPc.blind, hrec, hpc⟩ rfl hn hsz hst (lv_room hW) hdg hf) hL kk
/-- invokespecial of a method of the class above -/
theorem x_callLSU (X : AmC p s m args meth c cc nL own g) (hZ : ZX Lx A g s s.heap) (W1 ws : va_W) (hL : LW g A (W1 ++ ws) s.heap H locs) {a : Nat} {C : String} {cC : ClassId} (hat : ClassAt s C cC) (hM : LMt l Lx g y bytes maxL ret d mc ms ws (.ref a :: As) B) (cw : va_CS R s args own idx y bytes maxL ret (Cond.code y bytes maxL ret :: TT) { frames := d, cells := mc, slots := ms, locals := 40 * d } mc ms n) (hrec : ∃ cell : Cell, H[a]? = some cell ∧ cell.vm.isStatics = false ∧ s.vm.findClass C = some cell.cls)
    (hn : As.length = n) (hst : st0 = As.reverse ++ .ref a :: rest) (hsz : ls.size = nL) (hW : (rest.map fun v => v.category).sum ≤ 8) (hdg : decode cc pc = .ok (.invokespecial idx, 3)) (hf : cells + mc ≤ R.cells ∧ slots + ms ≤ R.slots)
    (kk : ∀ (v : Option Value) (nb : va_W) (H : Heap) (locs : List Loc), B v nb → LW g A (W1 ++ nb) s.heap H locs → W p l e R s m args below meth c H locs (cells + mc) (slots + ms) Q (F0 m (pc + 3) ls (v.toList ++ rest))) : W p l e R s m args below meth c H locs cells slots Q (F0 m pc ls st0) := by
  have hpc := x_lpc X hZ hL (.ref a :: As)
  obtain ⟨hx, hb, hml, hown, ht, hK, hN, hlk⟩ := X
  exact x_runL (st := F0 m pc ls st0) (va_runSU (C := C) (As := As) (rest := rest) hat ⟨hx, hb, hml, hown, ht⟩ (hM H.size) cw ⟨LPc.blind, hrec, hpc⟩ rfl hn hsz hst (lv_room hW) hdg hf) hL kk
/-- ends -/
theorem x_fin {v : Option Value} {nb : va_W} (hL : LW g (va_A ws s.heap.size) nb s.heap H locs) (hB : B v nb) {t : State} (ht : t.heap = H) : LQc g ws s.heap.size B args s (.returned v) t := ⟨⟨v, nb, rfl, hB, by rw [ht]; exact hL.1, hL.2.1⟩, hL.2.2.1.F ht⟩
theorem x_iret {v : Int32} {nb : va_W} {mc ms : Nat} (X : AmC p s m args meth c cc nL own g) (hL : LW g (va_A ws s.heap.size) nb s.heap H locs) (hr : meth.sig.returnType = some .int) (hB : B (some (.int v)) nb) (h1 : cells ≤ mc) (h2 : slots ≤ ms) (hdg : decode cc pc = .ok (.ireturn, 1)) : W p l e R s m args below meth c H locs cells slots (MQ below (LQc g ws s.heap.size B) args s mc ms (va_A ws s.heap.size)) (F0 m pc ls [.int v]) :=
  W.widen h1 h2 (W.iret X.1 X.2.1 hr (fun t ht hW => x_fin hL hB ht) hL.2.2.1.2.2 hdg X.2.2.2.2.2.2.2)
theorem x_tret {v : Int32} {ty : FieldType} {nb : va_W} {mc ms : Nat} (X : AmC p s m args meth c cc nL own g) (hL : LW g (va_A ws s.heap.size) nb s.heap H locs) (hr : meth.sig.returnType = some ty) (hn : narrow ty (.int v) = .int v) (hB : B (some (.int v)) nb) (h1 : cells ≤ mc) (h2 : slots ≤ ms) (hdg : decode cc pc = .ok (.ireturn, 1)) : W p l e R s m args below meth c H locs cells slots (MQ below (LQc g ws s.heap.size B) args s mc ms (va_A ws s.heap.size)) (F0 m pc ls [.int v]) :=
  W.widen h1 h2 (W.zret X.1 X.2.1 hr hn (fun t ht hW => x_fin hL hB ht) hL.2.2.1.2.2 hdg X.2.2.2.2.2.2.2)
theorem x_aret {q : Nat} {ty : FieldType} {nb : va_W} {mc ms : Nat} (X : AmC p s m args meth c cc nL own g) (hL : LW g (va_A ws s.heap.size) nb s.heap H locs) (hr : meth.sig.returnType = some ty) (hty : (∃ C, ty = .object C) ∨ ∃ t, ty = .array t) (hB : B (some (.ref q)) nb) (h1 : cells ≤ mc) (h2 : slots ≤ ms) (hdg : decode cc pc = .ok (.areturn, 1)) : W p l e R s m args below meth c H locs cells slots (MQ below (LQc g ws s.heap.size B) args s mc ms (va_A ws s.heap.size)) (F0 m pc ls [.ref q]) :=
  W.widen h1 h2 (W.aret X.1 X.2.1 hr hty (Or.inr ⟨_, rfl⟩) (fun t ht hW => x_fin hL hB ht) hL.2.2.1.2.2 hdg X.2.2.2.2.2.2.2)
theorem x_vret {nb : va_W} {mc ms : Nat} (X : AmC p s m args meth c cc nL own g) (hL : LW g (va_A ws s.heap.size) nb s.heap H locs) (hr : meth.sig.returnType = none) (hB : B none nb) (h1 : cells ≤ mc) (h2 : slots ≤ ms) (hdg : decode cc pc = .ok (.return_, 1)) : W p l e R s m args below meth c H locs cells slots (MQ below (LQc g ws s.heap.size B) args s mc ms (va_A ws s.heap.size)) (F0 m pc ls []) :=
  W.widen h1 h2 (W.vret X.1 X.2.1 hr (fun t ht hW => x_fin hL hB ht) hL.2.2.1.2.2 hdg X.2.2.2.2.2.2.2)
end LR
section LST
variable {l : Launch}
theorem lm_start {Lx : Nat × (Nat → Int32)} {y : MethodName} {cc : ByteArray} {maxL d mc ms : Nat} {ret : Option FieldType} {ws : va_W} {As : List Value} {B : Option Value → va_W → Prop} {g : Gh} (hy : plainName y.cls = true) (hlen : (lg_sl As).length ≤ maxL)
    (body : ∀ (p : Program) (e : Env) (s : State) (m : MethodId) (args : Array Value) (below : List Frame) (meth : Method) (c : Code) (ls : Array Slot), AmC p s m args meth c cc maxL y.cls g → ZX Lx (va_A ws s.heap.size) g s s.heap → meth.name = y.name → meth.sig.returnType = ret → lv_has ls maxL (lv_args 0 As) → LW g (va_A ws s.heap.size) ws s.heap s.heap [] →
      W p l e { frames := d, cells := mc, slots := ms, locals := 40 * d } s m args below meth c s.heap [] 0 0 (MQ below (LQc g ws s.heap.size B) args s mc ms (va_A ws s.heap.size)) (F0 m 0 ls [])) : LMt l Lx g y cc maxL ret d mc ms ws As B := by
  intro sz
  refine Met.ofW (cc := cc) (maxL := maxL) (ret := ret) hy rfl ?_
  intro p e s m args below meth c s₁ Bd hml hv
  obtain ⟨rfl, hsz, hP, hD, hK, hN, hZ⟩ := hv
  subst hsz
  have hts := atoms_spec (ws := Cond.code y cc maxL ret :: TT) Bd.pre
  rw [lg_entry_eq]
  exact body p e s m _ below meth c _ ⟨Bd.exec, Bd.bytes, hml, findClass_of_methodNamed Bd.named, fun w hw => hts w (List.mem_cons_of_mem _ hw), hK, hN, Bd.notSynchronized⟩ hZ (name_of_methodNamed Bd.named Bd.method).1 Bd.returns (lv_entry As hlen) ⟨hP, hD, va_S.rf, fun q h => Or.inr h⟩
end LST
