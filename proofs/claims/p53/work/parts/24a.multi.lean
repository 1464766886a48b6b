-- deps: 24
/-! A new square of ints (multianewarray with two dimensions, both N). -/
def mOut (cA : ClassId) (N h0 i : Nat) : Cell := arrV cA N (fun j => if j < i then .ref (h0 + 1 + j) else .null)
def mIn (cI : ClassId) (N : Nat) : Cell := arrV cI N (fun _ => .int 0)
def mGrid (T : State) (cA cI : ClassId) (N : Nat) : Nat → State
  | 0 => T.pushCell (mOut cA N T.heap.size 0)
  | i + 1 => ((mGrid T cA cI N i).pushCell (mIn cI N)).setCell T.heap.size (mOut cA N T.heap.size (i + 1))
theorem mOut_put (cA : ClassId) (N h0 i : Nat) : (mOut cA N h0 i).setSlot i (.ref (h0 + 1 + i)) = mOut cA N h0 (i + 1) := by
  unfold mOut
  rw [arrV_store]
  congr 1
  funext j
  unfold updV
  by_cases e : j = i
  · subst e
    rw [if_pos rfl, if_pos (Nat.lt_succ_self _)]
  · rw [if_neg e]
    show (if j < i then Value.ref (h0 + 1 + j) else .null) = _
    by_cases h : j < i
    · rw [if_pos h, if_pos (by omega)]
    · rw [if_neg h, if_neg (by omega)]
theorem mGrid_at (T : State) (cA cI : ClassId) (N : Nat) : ∀ i, (mGrid T cA cI N i).heap.size = T.heap.size + 1 + i ∧ (mGrid T cA cI N i).heap[T.heap.size]? = some (mOut cA N T.heap.size i) ∧ (mGrid T cA cI N i).vm = T.vm ∧ (mGrid T cA cI N i).slotsUsed = T.slotsUsed + N + i * N ∧ (∀ a : Nat, a < T.heap.size → (mGrid T cA cI N i).heap[a]? = T.heap[a]?) ∧ (∀ j, j < i → (mGrid T cA cI N i).heap[T.heap.size + 1 + j]? = some (mIn cI N)) := by
  intro i
  induction i with
  | zero =>
    refine ⟨by simp [mGrid], by simp [mGrid], rfl, ?_, fun a ha => State.heap_pushCell_of_lt _ _ ha, fun j hj => absurd hj (Nat.not_lt_zero _)⟩
    show T.slotsUsed + (mOut cA N T.heap.size 0).slots.size = _
    unfold mOut
    rw [arrV_size]
    omega
  | succ i ih =>
    obtain ⟨h1, h2, h3, h4, h5, h6⟩ := ih
    have lt0 : T.heap.size < (mGrid T cA cI N i).heap.size := by omega
    have g2 : ((mGrid T cA cI N i).pushCell (mIn cI N)).heap[T.heap.size]? = some (mOut cA N T.heap.size i) := by
      rw [State.heap_pushCell_of_lt (h := lt0)]
      exact h2
    refine ⟨?_, State.heap_setCell_self g2, ?_, ?_, fun a ha => ?_, fun j hj => ?_⟩
    · simp [mGrid, State.setCell, h1]
      omega
    · show (mGrid T cA cI N i).vm = _
      exact h3
    · show (mGrid T cA cI N i).slotsUsed + (mIn cI N).slots.size = _
      unfold mIn
      rw [arrV_size, h4, Nat.succ_mul]
      omega
    · show (((mGrid T cA cI N i).pushCell (mIn cI N)).setCell T.heap.size _).heap[a]? = _
      have lt1 : a < (mGrid T cA cI N i).heap.size := by omega
      rw [State.heap_setCell_other (Nat.ne_of_gt ha), State.heap_pushCell_of_lt (h := lt1)]
      exact h5 a ha
    · show (((mGrid T cA cI N i).pushCell (mIn cI N)).setCell T.heap.size _).heap[T.heap.size + 1 + j]? = _
      rw [State.heap_setCell_other (show T.heap.size ≠ T.heap.size + 1 + j by omega)]
      by_cases e : j < i
      · have lt1 : T.heap.size + 1 + j < (mGrid T cA cI N i).heap.size := by omega
        rw [State.heap_pushCell_of_lt (h := lt1)]
        exact h6 j e
      · have e2 : T.heap.size + 1 + j = (mGrid T cA cI N i).heap.size := by omega
        rw [e2]
        simp
theorem mGrid_top (T : State) (f : JFrame) (cA cI : ClassId) (N : Nat) : ∀ i, mGrid (T.setTop f) cA cI N i = (mGrid T cA cI N i).setTop f := by
  intro i
  induction i with
  | zero => rfl
  | succ i ih => simp only [mGrid, ih, State.heap_setTop, State.pushCell_setTop, State.setCell_setTop]
section MS
variable {p : Program} {l : Launch} {e : Env} {R : Room} {s : State} {m : MethodId} {args : Array Value} {below : List Frame} {meth : Method} {c : Code} {T : State} {locs : List Loc} {cells slots : Nat}
theorem mGrid_stand (X : Stand p l e R s m args below meth c T locs cells slots) (cA cI : ClassId) (N : Nat) : ∀ i, Stand p l e R s m args below meth c (mGrid T cA cI N i) (locs ++ (List.range i).map fun j => ⟨T.heap.size, j⟩) (cells + 1 + i) (slots + N + i * N) := by
  intro i
  induction i with
  | zero =>
    have h := X.pushed (mOut cA N T.heap.size 0)
    unfold mOut at h
    rw [arrV_size] at h
    simpa [mGrid, mOut] using h
  | succ i ih =>
    obtain ⟨h1, h2, -⟩ := mGrid_at T cA cI N i
    have hc : ((mGrid T cA cI N i).pushCell (mIn cI N)).heap[T.heap.size]? = some (mOut cA N T.heap.size i) := by
      have lt1 : T.heap.size < (mGrid T cA cI N i).heap.size := by omega
      rw [State.heap_pushCell_of_lt (h := lt1)]
      exact h2
    have h := (ih.pushed (mIn cI N)).stored hc i (.ref (T.heap.size + 1 + i))
    rw [mOut_put] at h
    have z1 : (mIn cI N).slots.size = N := arrV_size _ _ _
    rw [z1] at h
    have z2 : (locs ++ (List.range (i + 1)).map fun j => (⟨T.heap.size, j⟩ : Loc)) = (locs ++ (List.range i).map fun j => (⟨T.heap.size, j⟩ : Loc)) ++ [⟨T.heap.size, i⟩] := by simp [List.range_succ, List.append_assoc]
    rw [z2, show slots + N + (i + 1) * N = slots + N + i * N + N by rw [Nat.succ_mul]; omega]
    exact h
end MS
section MW
variable {E : CtlPost} {e : Env} {d : Bool} {acts : List Action} {s : State}
theorem m_inner {cI cc : ClassId} {kI : Class} {n : Int32} (hk : s.vm.classes[cI]? = some kI) (hkind : kI.kind = .array cc .int) (hn : ¬ n < 0) (hl : ¬ n.toNatClampNeg > e.platform.arrayLengthLimit) (hh : ¬ n.toNatClampNeg * componentBytes .int > e.platform.maxHeapBytes) (h1 : s.heap.size < e.platform.maxCells) (h2 : s.slotsUsed + n.toNatClampNeg ≤ e.platform.maxSlots)
    {Q : Addr → Pre} (hq : ∀ acts, Q s.heap.size d acts (s.pushCell (mIn cI n.toNatClampNeg))) : wp (multianewarray.make cI [n]) Q E e d acts s := by
  rw [multianewarray.make]
  simp only [wp_bind', W.ite, hn, if_false, wp_pure', W.theClass, hk, hkind, Option.some.injEq, exists_eq_left']
  refine W.newArray_of hk hkind hl hh h1 h2 (by decide) (fun acts' => ?_)
  have h := hq acts'
  unfold mIn at h
  rw [← arrV_new] at h
  exact h
theorem m_square {cA cI cc : ClassId} {kA kI : Class} {n : Int32} (hkA : s.vm.classes[cA]? = some kA) (hA : kA.kind = .array cI (.array .int)) (hk : s.vm.classes[cI]? = some kI) (hkind : kI.kind = .array cc .int) (hn : ¬ n < 0) (hl : ¬ n.toNatClampNeg > e.platform.arrayLengthLimit) (hh : ¬ n.toNatClampNeg * componentBytes .int > e.platform.maxHeapBytes)
    (h1 : s.heap.size + 1 + n.toNatClampNeg ≤ e.platform.maxCells) (h2 : s.slotsUsed + n.toNatClampNeg + n.toNatClampNeg * n.toNatClampNeg ≤ e.platform.maxSlots)
    {Q : Addr → Pre} (hq : ∀ d acts, Q s.heap.size d acts (mGrid s cA cI n.toNatClampNeg n.toNatClampNeg)) : wp (multianewarray.make cA [n, n]) Q E e d acts s := by
  have hf : ([n].find? (· < 0)) = none := by simp [hn]
  rw [multianewarray.make]
  simp only [wp_bind', W.ite, hn, if_false, wp_pure', W.theClass, hkA, hA, Option.some.injEq, exists_eq_left']
  refine W.newArray_of hkA hA hl hh (by omega) (by have := Nat.zero_le (n.toNatClampNeg * n.toNatClampNeg); omega) (by decide) (fun acts' => ?_)
  simp only [hf]
  rw [ite_self, wp_bind', Std.Legacy.Range.forIn_eq_forIn_range']
  have hsz : ([:n.toNatClampNeg] : Std.Legacy.Range).size = n.toNatClampNeg := by simp [Std.Legacy.Range.size]
  rw [hsz]
  generalize hN : n.toNatClampNeg = N at *
  have e0 : s.pushCell ({ cls := cA, slots := Array.replicate N .null } : Cell) = mGrid s cA cI N 0 := by
    show _ = s.pushCell (mOut cA N s.heap.size 0)
    congr 1
    show ({ cls := cA, slots := Array.replicate N .null, vm := .none } : Cell) = _
    rw [arrV_new]
    unfold mOut
    congr 1
  rw [e0]
  show wp (forIn (List.range' 0 N 1) PUnit.unit _) _ E e d acts' _
  refine wp_forIn_inv (fun rest t => ∃ i, i ≤ N ∧ rest = List.range' i (N - i) ∧ t = mGrid s cA cI N i) _ _ ⟨0, Nat.zero_le _, rfl, rfl⟩ ?_ ?_
  · rintro x rest t d2 acts2 Q2 ⟨i, hi, hr, rfl⟩ next
    have hlt : i < N := by
      refine Nat.lt_of_le_of_ne hi (fun z => ?_)
      subst z
      rw [Nat.sub_self] at hr
      cases hr
    rw [show N - i = (N - (i + 1)) + 1 by omega, List.range'_succ] at hr
    obtain ⟨rfl, rfl⟩ := List.cons.inj hr
    obtain ⟨g1, g2, g3, g4, -⟩ := mGrid_at s cA cI N x
    have hm : x * N + N ≤ N * N := by
      rw [← Nat.succ_mul]
      exact Nat.mul_le_mul_right N hlt
    simp only [wp_bind']
    refine m_inner (by rw [g3]; exact hk) hkind hn (by rw [hN]; exact hl) (by rw [hN]; exact hh) (by rw [g1]; omega) (by rw [g4, hN]; omega) (fun acts3 => ?_)
    rw [hN]
    have lt0 : s.heap.size < (mGrid s cA cI N x).heap.size := by omega
    simp only [wp_bind', W.writeLoc, wp_pure']
    refine ⟨mOut cA N s.heap.size x, by rw [State.heap_pushCell_of_lt (h := lt0)]; exact g2, (by intro z; exact absurd (show VmData.none = VmData.unknown from z) (by simp)), (by unfold mOut; rw [arrV_size]; exact hlt), ?_, next _ _ _ ⟨x + 1, hlt, rfl, ?_⟩⟩
    · show State.fitsSlot _ cA .none x _ = true
      simp [State.fitsSlot, State.slotType?, g3, hkA, hA]
      rfl
    · rw [g1, mOut_put]
      rfl
  · rintro t d2 acts2 ⟨i, hi, hr, rfl⟩
    have hiN : i = N := by
      refine Classical.byContradiction fun z => ?_
      rw [show N - i = (N - (i + 1)) + 1 by omega, List.range'_succ] at hr
      cases hr
    subst hiN
    simp only [wp_pure']
    exact hq _ _
end MW
section MX
variable {p : Program} {l : Launch} {e : Env} {R : Room} {s : State} {m : MethodId} {args : Array Value} {below : List Frame} {meth : Method} {c : Code} {T : State} {locs : List Loc} {cells slots : Nat}
theorem m_step (X : Stand p l e R s m args below meth c T locs cells slots) (hexec : p.tables.exec = Jvm.exec) {own : String} {index : Nat} (hown : s.vm.findClass own = some m.cls) (hclink : (Cond.classLink own index ("[" ++ (FieldType.array .int).toString)).before args s = true)
    {cA cI cc : ClassId} {kA kI : Class} (hnA : s.vm.findClass ("[" ++ (FieldType.array .int).toString) = some cA) (hkA : s.vm.classes[cA]? = some kA) (hA : kA.kind = .array cI (.array .int)) (hkI : s.vm.classes[cI]? = some kI) (hI : kI.kind = .array cc .int)
    {g : JFrame} (hg : g.method = m) (hdg : decode c.code g.pc = .ok (.multianewarray index 2, 4)) {n : Int32} {N : Nat} (hN : n.toNatClampNeg = N) {rest : List Value} (hstack : g.stack = .int n :: .int n :: rest) (hn : ¬ n < 0) (hb : N ≤ 1000) (hcells : cells + (1 + N) ≤ R.cells) (hslots : slots + (N + N * N) ≤ R.slots) :
    ∃ vm₁ : Vm, s.WarmedH vm₁ ∧ Stand p l e R s m args below meth c (mGrid (T.setVm vm₁) cA cI N N) (locs ++ (List.range N).map fun j => ⟨T.heap.size, j⟩) (cells + 1 + N) (slots + N + N * N) ∧
      ∀ target, Steps p.tables e below ((mGrid (T.setVm vm₁) cA cI N N).setTop { g with pc := g.pc + 4, stack := .ref T.heap.size :: rest }) target → Steps p.tables e below (T.setTop g) target := by
  subst hg
  subst hN
  have hpl : e.platform.magicAccessors = ({} : Platform).magicAccessors := by rw [X.admits.platform]
  obtain ⟨c0, hf0, hcl⟩ := Cond.classLink_spec hown hclink e.platform hpl
  cases hnA.symm.trans hf0
  obtain ⟨hg₁, hwarm₁, hready₁⟩ := State.classEntry (e := e) X.warmed hcl
  generalize T.vm.noted g.method.cls index (.cls cA) = vm₁ at hg₁ hwarm₁ hready₁
  have hal : s.vm.Alike vm₁ := hwarm₁.alike
  obtain ⟨kA₁, hkA₁, heA⟩ := hal.2.2 _ _ hkA
  obtain ⟨kI₁, hkI₁, heI⟩ := hal.2.2 _ _ hkI
  have X₁ := X.noted hwarm₁
  have XG := mGrid_stand X₁ cA cI n.toNatClampNeg n.toNatClampNeg
  obtain ⟨hr1, hr2⟩ := X.roomAbove hcells hslots
  refine ⟨vm₁, hwarm₁, XG, fun target hrest => ?_⟩
  have hl1 : ¬ n.toNatClampNeg > e.platform.arrayLengthLimit := by rw [Launch.admits_arrayLengthLimit X.admits]; omega
  have hh1 : ¬ n.toNatClampNeg * componentBytes .int > e.platform.maxHeapBytes := by
    rw [Launch.admits_maxHeapBytes X.admits]; show ¬ n.toNatClampNeg * 4 > 536870912; omega
  jvm_step X.here [hexec, hdg]
  simp only [multianewarray.sem, wp_bind', W.resolveClassAt_links (State.method?_setTop g X.here.top) hg₁]
  rw [W.popN, if_neg (by decide)]
  refine ⟨g, State.topJava?_setTop' (s := T.setVm vm₁) g X.here.top, [.int n, .int n], rest, rfl, hstack, ?_⟩
  simp only [List.mapM_cons, List.mapM_nil, wp_bind', wp_pure']
  refine m_square (kA := kA₁) (kI := kI₁) hkA₁ (by rw [heA]; exact hA) hkI₁ (by rw [heI]; exact hI) hn hl1 hh1 (by show T.heap.size + 1 + _ ≤ _; omega) (by show T.slotsUsed + _ + _ ≤ _; omega) (fun d acts => ?_)
  have eS : ((T.setTop g).setVm vm₁).setTop { g with stack := rest } = (T.setVm vm₁).setTop { g with stack := rest } := by
    show ((T.setVm vm₁).setTop g).setTop _ = _
    rw [State.setTop_setTop]
  rw [eS, mGrid_top]
  simp only [wp_bind', W.mark, W.pushRef, State.topJava?_setTop' _ XG.here.top, Option.some.injEq, exists_eq_left', State.setTop_setTop, State.heap_setTop]
  intro acts
  simp [jvm, XG.here.top]
  exact hrest
end MX
section MY
variable {p : Program} {l : Launch} {e : Env} {R : Room} {s : State} {m : MethodId} {args : Array Value} {below : List Frame} {meth : Method} {c : Code} {H : Heap} {locs : List Loc} {cells slots : Nat} {Q : State → Prop}
variable {cc : ByteArray} {nL : Nat} {own : String} {g : Gh} {pc : Nat} {ls : Array Slot} {rest : List Value} {A : Nat → Prop} {ws : va_W} {Lx : Nat × (Nat → Int32)}
theorem x_multi (X : AmC p s m args meth c cc nL own g) (hZ : ZX Lx A g s s.heap) (hL : LW g A ws s.heap H locs) {n : Int32} {N idx : Nat} (hn : ¬ n < 0) (hN : n.toNatClampNeg = N) (hb2 : N ≤ 1000) (hcl : Cond.classLink own idx "[[I" ∈ TT) (hcells : cells + (1 + N) ≤ R.cells) (hslots : slots + (N + N * N) ≤ R.slots) (hdg : decode cc pc = .ok (.multianewarray idx 2, 4))
    (kk : ∀ (q : Nat) (rq : Nat → Nat) (H1 : Heap) (locs : List Loc), LW g A ((q, ra g N rq) :: (ws ++ rowsL g N rq (fun _ _ => 0))) s.heap H1 locs → W p l e R s m args below meth c H1 locs (cells + 1 + N) (slots + N + N * N) Q (F0 m (pc + 4) ls (.ref q :: rest))) : W p l e R s m args below meth c H locs cells slots Q (F0 m pc ls (.int n :: .int n :: rest)) := by
  obtain ⟨cA, kA, cI, hkA, hA, hnI, hnA⟩ := hZ.2.2.2
  obtain ⟨hx, hb, hml, hown, ht, hK, hN2, hlk⟩ := id X
  have e3 : g.2.1 3 = cA := Option.some.inj ((hK.2 3 (g.2.1 3, .array .int) rfl).2.symm.trans hnA)
  have e0 : g.2.1 0 = cI := Option.some.inj ((hK.2 0 (g.2.1 0, .int) rfl).2.symm.trans hnI)
  obtain ⟨-, kI, hkI, cc2, hI⟩ := (hK.2 0 (g.2.1 0, .int) rfl).1 0 (fun _ => .null)
  have hkI : s.vm.classes[g.2.1 0]? = some kI := hkI
  rw [e0] at hkI
  intro T hT XT
  subst hT
  subst hb
  obtain ⟨vm₁, hW, XG, st⟩ := m_step XT hx hown (ht _ hcl) hnA hkA hA hkI hI (g := F0 m pc ls (.int n :: .int n :: rest)) rfl hdg hN (rest := rest) rfl hn hb2 hcells hslots
  obtain ⟨g1, g2, -, -, g5, g6⟩ := mGrid_at (T.setVm vm₁) cA cI N N
  generalize hH1 : (mGrid (T.setVm vm₁) cA cI N N).heap = H1 at *
  have g1 : H1.size = T.heap.size + 1 + N := g1
  have g2 : H1[T.heap.size]? = some (mOut cA N T.heap.size N) := g2
  have g5 : ∀ a : Nat, a < T.heap.size → H1[a]? = T.heap[a]? := g5
  have g6 : ∀ j, j < N → H1[T.heap.size + 1 + j]? = some (mIn cI N) := g6
  obtain ⟨hP, hD, hS, hAA⟩ := hL
  have old : ∀ (k : Nat) (x : Nat × va_E), ws[k]? = some x → x.1 < T.heap.size := fun k x hk => (hP k x hk).lt
  have nd : ∀ (k : Nat) (x : Nat × va_E), ((T.heap.size, ra g N (fun j => T.heap.size + 1 + j)) :: (ws ++ rowsL g N (fun j => T.heap.size + 1 + j) (fun _ _ => 0)))[k]? = some x → (k = 0 ∧ x = (T.heap.size, ra g N (fun j => T.heap.size + 1 + j))) ∨ (∃ i, k = i + 1 ∧ ws[i]? = some x) ∨ (∃ j, k = ws.length + 1 + j ∧ j < N ∧ x = (T.heap.size + 1 + j, ia g N (fun _ => 0))) := fun k x hk => by
    cases k with
    | zero => exact Or.inl ⟨rfl, (Option.some.inj hk).symm⟩
    | succ k =>
      have hk : (ws ++ rowsL g N (fun j => T.heap.size + 1 + j) (fun _ _ => 0))[k]? = some x := hk
      by_cases h : k < ws.length
      · rw [List.getElem?_append_left h] at hk
        exact Or.inr (Or.inl ⟨k, rfl, hk⟩)
      · rw [List.getElem?_append_right (by omega)] at hk
        have hlt := (List.getElem?_eq_some_iff.mp hk).1
        rw [rowsL_len] at hlt
        rw [rowsL_at g _ _ hlt] at hk
        exact Or.inr (Or.inr ⟨k - ws.length, by omega, hlt, (Option.some.inj hk).symm⟩)
  have hLn : LW g A ((T.heap.size, ra g N (fun j => T.heap.size + 1 + j)) :: (ws ++ rowsL g N (fun j => T.heap.size + 1 + j) (fun _ _ => 0))) s.heap H1 (locs ++ (List.range N).map fun j => ⟨T.heap.size, j⟩) := by
    refine ⟨fun k x hk => ?_, ⟨fun i j x y hi hj ee => ?_, fun k x hk => ?_⟩, ⟨Nat.le_trans hS.1 (by omega), fun q h1 h2 => (g5 q (Nat.lt_of_lt_of_le h1 hS.1)).trans (hS.2.1 q h1 h2), fun q hq => ?_⟩, hAA⟩
    · rcases nd k x hk with ⟨-, rfl⟩ | ⟨i, -, h⟩ | ⟨j, -, h, rfl⟩
      · show H1[T.heap.size]? = some (vp_cell (g.2.1 3) _)
        rw [g2, e3]
        show some (mOut cA N T.heap.size N) = some (arrV cA N (fun j => va_rf (some (T.heap.size + 1 + j))))
        unfold mOut arrV
        congr 3
        funext j
        exact if_pos j.isLt
      · exact (hP i x h).kept (g5 _ (old i x h))
      · show H1[T.heap.size + 1 + j]? = some (vp_cell (g.2.1 0) _)
        rw [g6 j h, e0]
        rfl
    · rcases nd i x hi with ⟨i1, rfl⟩ | ⟨i1, i2, i3⟩ | ⟨i1, i2, i3, rfl⟩ <;> rcases nd j y hj with ⟨j1, rfl⟩ | ⟨j1, j2, j3⟩ | ⟨j1, j2, j3, rfl⟩
      · omega
      · have h9 : T.heap.size = y.1 := ee
        have := old _ _ j3
        omega
      · have h9 : T.heap.size = T.heap.size + 1 + j1 := ee
        omega
      · have h9 : x.1 = T.heap.size := ee
        have := old _ _ i3
        omega
      · have := hD.1 _ _ x y i3 j3 ee
        omega
      · have h9 : x.1 = T.heap.size + 1 + j1 := ee
        have := old _ _ i3
        omega
      · have h9 : T.heap.size + 1 + i1 = T.heap.size := ee
        omega
      · have h9 : T.heap.size + 1 + i1 = y.1 := ee
        have := old _ _ j3
        omega
      · have h9 : T.heap.size + 1 + i1 = T.heap.size + 1 + j1 := ee
        omega
    · rcases nd k x hk with ⟨-, rfl⟩ | ⟨i, -, h⟩ | ⟨j, -, h, rfl⟩
      · exact hAA _ hS.1
      · exact hD.2 i x h
      · exact hAA _ (Nat.le_trans hS.1 (by show T.heap.size ≤ T.heap.size + 1 + j; omega))
    · rcases List.mem_append.mp hq with h | h
      · exact hS.2.2 q h
      · obtain ⟨j, -, rfl⟩ := List.mem_map.mp h
        exact hAA _ hS.1
  obtain ⟨t2, a1, b1⟩ := kk T.heap.size (fun j => T.heap.size + 1 + j) H1 _ hLn (mGrid (T.setVm vm₁) cA cI N N) hH1 XG
  exact ⟨t2, st t2 a1, b1⟩
end MY
