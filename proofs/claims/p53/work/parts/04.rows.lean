/-! The rows over the world. -/
def rmd (d : Nat) : Room := { frames := d, cells := 0, slots := 0, locals := 40 * d }
/-- the static arrays (operand types, keywords), the law's nine texts as String constants -/
def opT : Nat → Int32 := fun i => ([0, 1, 3, 0, 0, 3, 0, 0, 2, 0, 2, 0, 0, 0, 0, 1, 0, 0] : List Int32).getD i 0
def kwT : Nat → Int64 := fun i => ([0x6e6577, 0x636f7079, 0x6c6f6164, 0x73746f7265, 0x63616c6c, 0x66756e] : List Int64).getD i 0
def kwLen : List Nat := [3, 4, 4, 5, 4, 3]
def kwByt : List (List Int32) := [[110, 101, 119], [99, 111, 112, 121], [108, 111, 97, 100], [115, 116, 111, 114, 101], [99, 97, 108, 108], [102, 117, 110]]
def kwIx (i : Nat) : Nat := ([145, 151, 153, 155, 157, 159] : List Nat).getD i 0
def kwTx (i : Nat) : String := (["new", "copy", "load", "store", "call", "fun"] : List String).getD i ""
def lsLen : List Nat := [10, 6, 1, 1, 4, 5, 5, 6, 5]
def lsByt : List (List Int32) := [[102, 117, 110, 32, 112, 32, 97, 32, 98, 59], [102, 117, 110, 32, 113, 32], [32], [59], [110, 101, 119, 32], [99, 111, 112, 121, 32], [108, 111, 97, 100, 32], [115, 116, 111, 114, 101, 32], [99, 97, 108, 108, 32]]
def lsIx (i : Nat) : Nat := ([42, 47, 56, 58, 60, 62, 64, 69, 71] : List Nat).getD i 0
def lsTx (i : Nat) : String := (["fun p a b;", "fun q ", " ", ";", "new ", "copy ", "load ", "store ", "call "] : List String).getD i ""
def ZS (Z : Shp) (g : Gh) (U : State) (H : Heap) : Prop := (va_Z RX9 "OPERAND_TYPES" "[I" (.ref (g.2.2 1000)) (zA Z g) U H ∧ va_Z RX9 "KEYWORDS" "[J" (.ref (g.2.2 1001)) (zA Z g) U H) ∧
  (va_T .int (g.2.2 1000) 18 (fun j => .int (opT j)) (zA Z g) U H ∧ va_T .long (g.2.2 1001) 6 (fun j => .long (kwT j)) (zA Z g) U H) ∧
  vk_S 9 lsLen lsByt (fun i => g.2.2 (2000 + i)) (fun i => g.2.2 (3000 + i)) (zA Z g) U H ∧ (∀ i, i < 9 → vk_R RL (lsIx i) (lsTx i) (g.2.2 (2000 + i)) U) ∧
  va_Z "java/lang/String" "COMPACT_STRINGS" "Z" (.int 1) (zA Z g) U H ∧ va_Zq "jdk/internal/util/Preconditions" "SIOOBE_FORMATTER" "Ljava/util/function/BiFunction;" (zA Z g) U H
theorem ZS.warm {Z : Shp} {g : Gh} {s U : State} {H : Heap} (hW : s.WarmedH U.vm) (h : ZS Z g s H) : ZS Z g U H := by
  have hvm := hW.alike
  obtain ⟨⟨h1, h2⟩, ⟨h3, h4⟩, h5, h6, h7, h8⟩ := h
  exact ⟨⟨h1.moved hvm, h2.moved hvm⟩, ⟨va_T.moved hvm h3, va_T.moved hvm h4⟩, h5.moved hvm, fun i hi => (h6 i hi).warm hW, h7.moved hvm, h8.moved hvm⟩
theorem ZS.same {Z : Shp} {g : Gh} {u U : State} {H : Heap} (hv : U.vm = u.vm) (h : ZS Z g u H) : ZS Z g U H := by
  have hvm : u.vm.Alike U.vm := by rw [hv]; exact Vm.Alike.refl _
  obtain ⟨⟨h1, h2⟩, ⟨h3, h4⟩, h5, h6, h7, h8⟩ := h
  exact ⟨⟨h1.moved hvm, h2.moved hvm⟩, ⟨va_T.moved hvm h3, va_T.moved hvm h4⟩, h5.moved hvm, fun i hi => (h6 i hi).same hv, h7.moved hvm, h8.moved hvm⟩
theorem ZS.kept {Z : Shp} {g : Gh} {U : State} {H H1 : Heap} {locs : List Loc} (hS : va_S (zA Z g) H H1 locs) (h : ZS Z g U H) : ZS Z g U H1 := by
  obtain ⟨⟨h1, h2⟩, ⟨h3, h4⟩, h5, h6, h7, h8⟩ := h
  exact ⟨⟨h1.kept hS.2.1, h2.kept hS.2.1⟩, ⟨h3.kept hS.2.1, h4.kept hS.2.1⟩, h5.kept hS.2.1, h6, h7.kept hS.2.1, h8.kept hS.2.1⟩
theorem zz_warm {s U : State} (hW : s.WarmedH U.vm) (h : ∀ w ∈ NL, va_Nw w s) : ∀ w ∈ NL, va_Nw w U := by
  intro w hw
  have h1 := h w hw
  have h2 := (List.mem_filter.mp hw).2
  cases w <;> first | exact va_Nw.warmF hW h1 | exact va_Nw.warmM hW h1 | cases h2
theorem zz_same {u U : State} (e : u.vm = U.vm) (h : ∀ w ∈ NL, va_Nw w u) : ∀ w ∈ NL, va_Nw w U := by
  intro w hw
  have h1 := h w hw
  have h2 := (List.mem_filter.mp hw).2
  cases w <;> first | exact va_Nw.same rfl e h1 | cases h2
/-- what holds all along a method -/
def Amb (p : Program) (s : State) (m : MethodId) (args : Array Value) (meth : Method) (c : Code) (cc : ByteArray) (nL : Nat) (own : String) (Z : Shp) (g : Gh) : Prop :=
  p.tables.exec = Jvm.exec ∧ c.code = cc ∧ c.maxLocals = nL ∧ s.vm.findClass own = some m.cls ∧ (∀ w ∈ TT, w.before args s = true) ∧ va_K g.1 vwCl (ztys g) s ∧ (∀ w ∈ NL, va_Nw w s) ∧ ZS Z g s s.heap ∧ meth.locks = false
/-- a contract's start and end over a world -/
def PB (Z : Shp) (g : Gh) (w : Wd) (U : State) : Prop := va_P g.1 vwCl (zcells Z g w) U.heap ∧ va_D (zA Z g) (zcells Z g w) ∧ va_K g.1 vwCl (ztys g) U ∧ (∀ w ∈ NL, va_Nw w U) ∧ ZS Z g U U.heap
abbrev Pcw (Z : Shp) (g : Gh) (w : Wd) (As : List Value) : Array Value → State → Prop := va_Pc As (PB Z g w)
def Qw (Z : Shp) (g : Gh) (w : Wd) (v : Option Value) : Array Value → State → Outcome → State → Prop := fun _ st o t => o = .returned v ∧ va_P g.1 vwCl (zcells Z g w) t.heap ∧ va_F (zA Z g) st t
theorem zD {Z : Shp} {g : Gh} {w w2 : Wd} (h : va_D (zA Z g) (zcells Z g w)) : va_D (zA Z g) (zcells Z g w2) := by
  have key : ∀ (i : Nat) (q : Nat × va_E), (zcells Z g w2)[i]? = some q → ∃ q2 : Nat × va_E, (zcells Z g w)[i]? = some q2 ∧ q2.1 = q.1 := by
    intro i q hq
    have hi : i < Z.1 := by
      have h1 := (List.getElem?_eq_some_iff.mp hq).1
      simpa [zcells] using h1
    rw [zget Z g w2 hi] at hq
    exact ⟨_, zget Z g w hi, by rw [← Option.some.inj hq]⟩
  constructor
  · intro i j p q hp hq e
    obtain ⟨p2, a1, a2⟩ := key i p hp
    obtain ⟨q2, b1, b2⟩ := key j q hq
    exact h.1 i j p2 q2 a1 b1 (by rw [a2, b2]; exact e)
  · intro k q hq
    obtain ⟨q2, b1, b2⟩ := key k q hq
    rw [← b2]
    exact h.2 k q2 b1
section MT
variable {l : Launch}
theorem mt_start {y : MethodName} {cc : ByteArray} {maxL : Nat} {ret : Option FieldType} {d : Nat} {Z : Shp} {g : Gh} {w w2 : Wd} {As : List Value} {v : Option Value} (hy : plainName y.cls = true) (hlen : (lg_sl As).length ≤ maxL)
    (body : ∀ (p : Program) (e : Env) (s : State) (m : MethodId) (args : Array Value) (below : List Frame) (meth : Method) (c : Code) (H : Heap) (locs : List Loc) (ls : Array Slot), Amb p s m args meth c cc maxL y.cls Z g → meth.sig.returnType = ret → lv_has ls maxL (lv_args 0 As) → HW Z g w s.heap H locs →
      W p l e (rmd d) s m args below meth c H locs 0 0 (MQ below (Qw Z g w2 v) args s 0 0 (zA Z g)) (F0 m 0 ls [])) : Met l y (Cond.code y cc maxL ret :: TT) (rmd d) (Pcw Z g w As) (Qw Z g w2 v) 0 0 (zA Z g) := by
  refine Met.ofW (cc := cc) (maxL := maxL) (ret := ret) hy rfl ?_
  intro p e s m args below meth c s₁ B hml hv
  obtain ⟨rfl, hP, hD, hK, hN, hZ⟩ := hv
  have hts := atoms_spec (ws := Cond.code y cc maxL ret :: TT) B.pre
  rw [lg_entry_eq]
  refine body p e s m _ below meth c _ _ _ ⟨B.exec, B.bytes, hml, findClass_of_methodNamed B.named, fun w hw => hts w (List.mem_cons_of_mem _ hw), hK, hN, hZ, B.notSynchronized⟩ B.returns (lv_entry As hlen) ⟨hP, hD, va_S.rf⟩
end MT
/-- what is known of a method that is called -/
def MSt (y : MethodName) (bytes : ByteArray) (maxL : Nat) (ret : Option FieldType) (n : Nat) : Prop := Cond.code y bytes maxL ret ∈ TT ∧ Cond.initialized y.cls ∈ TT ∧ (y.cls ≠ "java/lang/invoke/MethodHandle" ∧ y.cls ≠ "java/lang/invoke/VarHandle" ∧ (parseMethodDescriptor y.desc).map (fun d => d.parameters.length) = some n)
def MLk (own : String) (idx : Nat) (y : MethodName) : Prop := Cond.methodLink own idx y ∈ TT ∨ ∃ host, Cond.methodLinkNest own idx y host ∈ NL
def IMt (y : MethodName) : Prop := Cond.instanceMethod y ∈ TT ∧ Cond.selects y.cls y y ∈ TT
def CNm (ci : Nat) (C : String) : Prop := ci < 20 ∧ ∃ q : vw_C, vwCl[ci]? = some q ∧ q.1 = C
theorem zz_good {y : MethodName} {bytes : ByteArray} {maxL : Nat} {ret : Option FieldType} (h : Cond.code y bytes maxL ret ∈ TT) : GoodIn TT (Cond.code y bytes maxL ret :: TT) := by
  intro w hw
  have h1 : w ∈ TT := by
    rcases List.mem_cons.mp hw with rfl | h2
    · exact h
    · exact h2
  exact ⟨h1, good_of_word (List.mem_filter.mp h1).2⟩
section RW
variable {p : Program} {l : Launch} {e : Env} {R : Room} {s : State} {m : MethodId} {args : Array Value} {below : List Frame} {meth : Method} {c : Code} {H : Heap} {locs : List Loc} {cells slots : Nat} {Q : State → Prop}
variable {cc : ByteArray} {nL : Nat} {own : String} {Z : Shp} {g : Gh} {w : Wd} {pc : Nat} {ls : Array Slot} {rest : List Value}
theorem w_get (X : Amb p s m args meth c cc nL own Z g) (hH : HW Z g w s.heap H locs) {k ci j t idx : Nat} (hk : zct Z k = ci) (fs : FSt ci j t) (lk : LKt own idx ci j) (hdg : decode cc pc = .ok (.getfield idx, 3))
    (kk : W p l e R s m args below meth c H locs cells slots Q (F0 m (pc + 3) ls (zfv Z g w k j t :: rest))) : W p l e R s m args below meth c H locs cells slots Q (F0 m pc ls (.ref (g.2.2 k) :: rest)) := by
  obtain ⟨hx, hb, hml, hown, ht, hK, hN, -⟩ := X
  obtain ⟨⟨q, hq, hci, hn, hin, -⟩, hj, hf, q2, hq2, hd, -⟩ := fs
  have e2 : q2 = q := Option.some.inj (hq2.symm.trans hq)
  subst e2
  subst hf
  have he := zgetc Z g w hk (by omega)
  rw [zcl_obj Z g w k hci] at he
  rcases lk with ⟨q3, hq3, hl⟩ | ⟨q3, host, hq3, hl⟩
  · have e3 : q3 = q2 := Option.some.inj (hq3.symm.trans hq)
    subst e3
    exact va_get hx hb (ref := q3.1) ht hin hown hK hH.1 k he hq j (by rw [← hn]; exact hj) (ht _ hl) (fun x h => by rw [hd] at h; exact h) (zfs_get Z g w k hj) hdg kk
  · have e3 : q3 = q2 := Option.some.inj (hq3.symm.trans hq)
    subst e3
    exact va_getN hx hb (ref := q3.1) (host := host) ht hin hown hK hH.1 k he hq j (by rw [← hn]; exact hj) (va_Nw.use rfl (hN _ hl)) (fun x h => by rw [hd] at h; exact h) (zfs_get Z g w k hj) hdg kk
theorem w_geti (X : Amb p s m args meth c cc nL own Z g) (hH : HW Z g w s.heap H locs) {k ci j idx : Nat} (hk : zct Z k = ci) (fs : FSt ci j 0) (lk : LKt own idx ci j) (hdg : decode cc pc = .ok (.getfield idx, 3))
    (kk : W p l e R s m args below meth c H locs cells slots Q (F0 m (pc + 3) ls (.int (w.1 k j) :: rest))) : W p l e R s m args below meth c H locs cells slots Q (F0 m pc ls (.ref (g.2.2 k) :: rest)) := w_get X hH hk fs lk hdg kk
theorem w_getl (X : Amb p s m args meth c cc nL own Z g) (hH : HW Z g w s.heap H locs) {k ci j idx : Nat} (hk : zct Z k = ci) (fs : FSt ci j 1) (lk : LKt own idx ci j) (hdg : decode cc pc = .ok (.getfield idx, 3))
    (kk : W p l e R s m args below meth c H locs cells slots Q (F0 m (pc + 3) ls (.long (w.2.1 k j) :: rest))) : W p l e R s m args below meth c H locs cells slots Q (F0 m pc ls (.ref (g.2.2 k) :: rest)) := w_get X hH hk fs lk hdg kk
theorem w_getr (X : Amb p s m args meth c cc nL own Z g) (hH : HW Z g w s.heap H locs) {k ci j idx : Nat} (hk : zct Z k = ci) (fs : FSt ci j 2) (lk : LKt own idx ci j) (hdg : decode cc pc = .ok (.getfield idx, 3))
    (kk : W p l e R s m args below meth c H locs cells slots Q (F0 m (pc + 3) ls (.ref (g.2.2 (zrf Z k j)) :: rest))) : W p l e R s m args below meth c H locs cells slots Q (F0 m pc ls (.ref (g.2.2 k) :: rest)) := w_get X hH hk fs lk hdg kk
theorem w_put (X : Amb p s m args meth c cc nL own Z g) (hH : HW Z g w s.heap H locs) {w2 : Wd} {k ci j t idx : Nat} {v : Value} (hk : zct Z k = ci) (fs : FSt ci j t) (nf : NFt ci j) (lk : LKt own idx ci j)
    (hset : ci < 20 → fty ci j = t → (zcells Z g w).set k (g.2.2 k, .inr (ci, (zfs Z g w k ci).set j v)) = zcells Z g w2) (hv : ∀ ty, zty t (some ty) = true → t ≠ 2 → narrow ty v = v ∧ fits ty v = true) (ht2 : t ≠ 2) (hdg : decode cc pc = .ok (.putfield idx, 3))
    (kk : ∀ (H : Heap) (locs : List Loc), HW Z g w2 s.heap H locs → W p l e R s m args below meth c H locs cells slots Q (F0 m (pc + 3) ls rest)) : W p l e R s m args below meth c H locs cells slots Q (F0 m pc ls (v :: .ref (g.2.2 k) :: rest)) := by
  obtain ⟨hx, hb, hml, hown, ht, hK, hN, -⟩ := X
  obtain ⟨⟨q, hq, hci, hn, hin, ⟨ty0, hty⟩, hnm⟩, hj, hf, q2, hq2, hd, hzt⟩ := fs
  have e2 : q2 = q := Option.some.inj (hq2.symm.trans hq)
  subst e2
  obtain ⟨q4, hq4, hfin⟩ := nf
  have e4 : q4 = q2 := Option.some.inj (hq4.symm.trans hq)
  subst e4
  have he := zgetc Z g w hk (by omega)
  rw [zcl_obj Z g w k hci] at he
  have hjn : j < q4.2.2 := by rw [← hn]; exact hj
  have hpd := hty j hjn
  rw [hpd] at hzt
  have hlen : j < (zfs Z g w k ci).length := by simp [zfs]; exact hj
  have hs := hset hci hf
  have hvv := hv _ hzt ht2
  rcases lk with ⟨q3, hq3, hl⟩ | ⟨q3, host, hq3, hl⟩
  · have e3 : q3 = q4 := Option.some.inj (hq3.symm.trans hq)
    subst e3
    refine va_put hx hb (ref := q3.1) ht hin ty0 hty hnm hown hK hH.1 hH.2.1 hH.2.2 k he hq j hjn (ht _ hl) (fun x h => by rw [hd] at h; exact h) hfin hpd hvv.1 hvv.2 hlen hdg (fun H1 locs1 a1 a2 a3 => ?_)
    rw [hs] at a1 a2
    exact kk H1 locs1 ⟨a1, a2, a3⟩
  · have e3 : q3 = q4 := Option.some.inj (hq3.symm.trans hq)
    subst e3
    refine va_putN hx hb (ref := q3.1) (host := host) ht hin ty0 hty hnm hown hK hH.1 hH.2.1 hH.2.2 k he hq j hjn (va_Nw.use rfl (hN _ hl)) (fun x h => by rw [hd] at h; exact h) hfin hpd hvv.1 hvv.2 hlen hdg (fun H1 locs1 a1 a2 a3 => ?_)
    rw [hs] at a1 a2
    exact kk H1 locs1 ⟨a1, a2, a3⟩
theorem w_puti (X : Amb p s m args meth c cc nL own Z g) (hH : HW Z g w s.heap H locs) {k ci j idx : Nat} {x : Int32} {w2 : Wd} (hw : some (wsI w k j x) = some w2) (hk : zct Z k = ci) (fs : FSt ci j 0) (nf : NFt ci j) (lk : LKt own idx ci j) (hdg : decode cc pc = .ok (.putfield idx, 3))
    (kk : ∀ (H : Heap) (locs : List Loc), HW Z g w2 s.heap H locs → W p l e R s m args below meth c H locs cells slots Q (F0 m (pc + 3) ls rest)) : W p l e R s m args below meth c H locs cells slots Q (F0 m pc ls (.int x :: .ref (g.2.2 k) :: rest)) := by
  cases hw
  refine w_put X hH hk fs nf lk (fun a b => zset_fi hk a b (Or.inl rfl)) (fun ty h _ => ?_) (by decide) hdg kk
  cases ty <;> first | exact ⟨rfl, rfl⟩ | cases h
theorem bI_nar (b : Bool) : narrow .boolean (.int (bI b)) = .int (bI b) := by cases b <;> rfl
theorem bI_fit (b : Bool) : fits .boolean (.int (bI b)) = true := by cases b <;> rfl
theorem w_putz (X : Amb p s m args meth c cc nL own Z g) (hH : HW Z g w s.heap H locs) {k ci j idx : Nat} {x : Bool} {w2 : Wd} (hw : some (wsI w k j (bI x)) = some w2) (hk : zct Z k = ci) (fs : FSt ci j 4) (nf : NFt ci j) (lk : LKt own idx ci j) (hdg : decode cc pc = .ok (.putfield idx, 3))
    (kk : ∀ (H : Heap) (locs : List Loc), HW Z g w2 s.heap H locs → W p l e R s m args below meth c H locs cells slots Q (F0 m (pc + 3) ls rest)) : W p l e R s m args below meth c H locs cells slots Q (F0 m pc ls (.int (bI x) :: .ref (g.2.2 k) :: rest)) := by
  cases hw
  refine w_put X hH hk fs nf lk (fun a b => zset_fi hk a b (Or.inr rfl)) (fun ty h _ => ?_) (by decide) hdg kk
  cases ty <;> first | exact ⟨bI_nar x, bI_fit x⟩ | cases h
theorem w_putl (X : Amb p s m args meth c cc nL own Z g) (hH : HW Z g w s.heap H locs) {k ci j idx : Nat} {x : Int64} {w2 : Wd} (hw : some (wsL w k j x) = some w2) (hk : zct Z k = ci) (fs : FSt ci j 1) (nf : NFt ci j) (lk : LKt own idx ci j) (hdg : decode cc pc = .ok (.putfield idx, 3))
    (kk : ∀ (H : Heap) (locs : List Loc), HW Z g w2 s.heap H locs → W p l e R s m args below meth c H locs cells slots Q (F0 m (pc + 3) ls rest)) : W p l e R s m args below meth c H locs cells slots Q (F0 m pc ls (.long x :: .ref (g.2.2 k) :: rest)) := by
  cases hw
  refine w_put X hH hk fs nf lk (fun a b => zset_fl hk a b) (fun ty h _ => ?_) (by decide) hdg kk
  cases ty <;> first | exact ⟨rfl, rfl⟩ | cases h
theorem w_putd (X : Amb p s m args meth c cc nL own Z g) (hH : HW Z g w s.heap H locs) {k ci j idx q : Nat} {w2 : Wd} (hw : some (wsR w k j q) = some w2) (hk : zct Z k = ci) (fs : FSt ci j 3) (nf : NFt ci j) (lk : LKt own idx ci j) (hdg : decode cc pc = .ok (.putfield idx, 3))
    (kk : ∀ (H : Heap) (locs : List Loc), HW Z g w2 s.heap H locs → W p l e R s m args below meth c H locs cells slots Q (F0 m (pc + 3) ls rest)) : W p l e R s m args below meth c H locs cells slots Q (F0 m pc ls (.ref (g.2.2 q) :: .ref (g.2.2 k) :: rest)) := by
  cases hw
  refine w_put X hH hk fs nf lk (fun a b => zset_fr hk a b) (fun ty h _ => ?_) (by decide) hdg kk
  cases ty <;> first | exact ⟨rfl, rfl⟩ | cases h
end RW
/-! What the class's code does, as functions over the world: a read or a write that fails is none. -/
def rdI (Z : Shp) (w : Wd) (k : Nat) (i : Int32) : Option Int32 := if i < 0 ∨ zln Z k ≤ i.toNatClampNeg then none else some (w.1 k i.toNatClampNeg)
def rdL (Z : Shp) (w : Wd) (k : Nat) (i : Int32) : Option Int64 := if i < 0 ∨ zln Z k ≤ i.toNatClampNeg then none else some (w.2.1 k i.toNatClampNeg)
def rdB (x : Int32) : Option Bool := if x = 0 then some false else if x = 1 then some true else none
def rdZ (Z : Shp) (w : Wd) (k : Nat) (i : Int32) : Option Bool := if i < 0 ∨ zln Z k ≤ i.toNatClampNeg then none else rdB (w.1 k i.toNatClampNeg)
def rdQ (Z : Shp) (k : Nat) (i : Int32) (t : Nat) : Option Nat := if i < 0 ∨ zln Z k ≤ i.toNatClampNeg then none else if zct Z (zrf Z k i.toNatClampNeg) = t then some (zrf Z k i.toNatClampNeg) else none
def rdD (Z : Shp) (w : Wd) (k j t : Nat) : Option Nat := if zct Z (w.2.2 k j) = t then some (w.2.2 k j) else none
def rdS {α : Type} (f : Nat → α) (n : Nat) (i : Int32) : Option α := if i < 0 ∨ n ≤ i.toNatClampNeg then none else some (f i.toNatClampNeg)
def wrI (Z : Shp) (w : Wd) (k : Nat) (i x : Int32) : Option Wd := if i < 0 ∨ zln Z k ≤ i.toNatClampNeg then none else some (wsI w k i.toNatClampNeg x)
def wrL (Z : Shp) (w : Wd) (k : Nat) (i : Int32) (x : Int64) : Option Wd := if i < 0 ∨ zln Z k ≤ i.toNatClampNeg then none else some (wsL w k i.toNatClampNeg x)
def lp {σ ρ : Type} (f : σ → Option (σ ⊕ ρ)) : Nat → σ → Option ρ
  | 0, _ => none
  | n + 1, s => match f s with
    | none => none
    | some (.inl s') => lp f n s'
    | some (.inr r) => some r
def NF : Nat := 65536
theorem ob {α β : Type} {x : Option α} {f : α → Option β} {b : β} (h : Option.bind x f = some b) : ∃ a, x = some a ∧ f a = some b := by
  cases x with
  | none => cases h
  | some a => exact ⟨a, rfl, h⟩
theorem se1 {α : Type} {a b : α} (h : some a = some b) : b = a := (Option.some.inj h).symm
theorem se2 {α β : Type} {a c : α} {b d : β} (h : some (a, b) = some (c, d)) : c = a ∧ d = b := by
  have e := Option.some.inj h
  exact ⟨(congrArg Prod.fst e).symm, (congrArg Prod.snd e).symm⟩
theorem lp_s {σ ρ : Type} {f : σ → Option (σ ⊕ ρ)} {n : Nat} {s : σ} {r : ρ} (h : lp f (n + 1) s = some r) : ∃ b, f s = some b ∧ (match b with | .inl s' => lp f n s' = some r | .inr r' => r' = r) := by
  unfold lp at h
  split at h
  · cases h
  · rename_i s' e
    exact ⟨_, e, h⟩
  · rename_i r' e
    exact ⟨_, e, Option.some.inj h⟩
theorem lp_0 {σ ρ : Type} {f : σ → Option (σ ⊕ ρ)} {s : σ} {r : ρ} {P : Prop} (h : lp f 0 s = some r) : P := by cases h
def jshl (x y : Int32) : Int32 := x <<< (y &&& 31)
def jshr (x y : Int32) : Int32 := x >>> (y &&& 31)
def jushr (x y : Int32) : Int32 := (x.toUInt32 >>> (y.toUInt32 &&& Int32.toUInt32 31)).toInt32
def jlshl (x : Int64) (y : Int32) : Int64 := x <<< (y.toInt64 &&& 63)
def jlshr (x : Int64) (y : Int32) : Int64 := x >>> (y.toInt64 &&& 63)
def jlushr (x : Int64) (y : Int32) : Int64 := (x.toUInt64 >>> (y.toInt64.toUInt64 &&& Int64.toUInt64 63)).toInt64
def jdiv (x y : Int32) : Int32 := x / y
def jrem (x y : Int32) : Int32 := x - x / y * y
def jbyte (x : Int32) : Int32 := x.toInt8.toInt32
theorem rd_in {i : Int32} {n : Nat} {α : Type} {a b : α} {f : Option α} (h : (if i < 0 ∨ n ≤ i.toNatClampNeg then none else f) = some b) : vp_in i n ∧ f = some b := by
  by_cases q : i < 0 ∨ n ≤ i.toNatClampNeg
  · rw [if_pos q] at h; cases h
  · rw [if_neg q] at h; exact ⟨q, h⟩
section RW2
variable {p : Program} {l : Launch} {e : Env} {R : Room} {s : State} {m : MethodId} {args : Array Value} {below : List Frame} {meth : Method} {c : Code} {H : Heap} {locs : List Loc} {cells slots : Nat} {Q : State → Prop}
variable {cc : ByteArray} {nL : Nat} {own : String} {Z : Shp} {g : Gh} {w : Wd} {pc : Nat} {ls : Array Slot} {rest : List Value}
theorem w_getd (X : Amb p s m args meth c cc nL own Z g) (hH : HW Z g w s.heap H locs) {k ci j idx t q : Nat} (hq : rdD Z w k j t = some q) (hk : zct Z k = ci) (fs : FSt ci j 3) (lk : LKt own idx ci j) (hdg : decode cc pc = .ok (.getfield idx, 3))
    (kk : zct Z q = t → W p l e R s m args below meth c H locs cells slots Q (F0 m (pc + 3) ls (.ref (g.2.2 q) :: rest))) : W p l e R s m args below meth c H locs cells slots Q (F0 m pc ls (.ref (g.2.2 k) :: rest)) := by
  unfold rdD at hq
  by_cases h : zct Z (w.2.2 k j) = t
  · rw [if_pos h] at hq
    cases hq
    exact w_get X hH hk fs lk hdg (kk h)
  · rw [if_neg h] at hq
    cases hq
theorem rdB_some {x : Int32} {b : Bool} (h : rdB x = some b) : x = bI b := by
  unfold rdB at h
  by_cases h1 : x = 0
  · rw [if_pos h1] at h; cases h; exact h1
  · rw [if_neg h1] at h
    by_cases h2 : x = 1
    · rw [if_pos h2] at h; cases h; exact h2
    · rw [if_neg h2] at h; cases h
theorem w_getz (X : Amb p s m args meth c cc nL own Z g) (hH : HW Z g w s.heap H locs) {k ci j idx : Nat} {b : Bool} (hq : rdB (w.1 k j) = some b) (hk : zct Z k = ci) (fs : FSt ci j 4) (lk : LKt own idx ci j) (hdg : decode cc pc = .ok (.getfield idx, 3))
    (kk : W p l e R s m args below meth c H locs cells slots Q (F0 m (pc + 3) ls (.int (bI b) :: rest))) : W p l e R s m args below meth c H locs cells slots Q (F0 m pc ls (.ref (g.2.2 k) :: rest)) := by
  refine w_get X hH hk fs lk hdg ?_
  rw [← rdB_some hq] at kk
  exact kk
theorem w_iald (X : Amb p s m args meth c cc nL own Z g) (hH : HW Z g w s.heap H locs) {k : Nat} {i x : Int32} (h : rdI Z w k i = some x) (hk : zct Z k = 20) (hdg : decode cc pc = .ok (.iaload, 1))
    (kk : W p l e R s m args below meth c H locs cells slots Q (F0 m (pc + 1) ls (.int x :: rest))) : W p l e R s m args below meth c H locs cells slots Q (F0 m pc ls (.int i :: .ref (g.2.2 k) :: rest)) := by
  obtain ⟨h1, h2⟩ := rd_in (a := x) h
  cases h2
  exact va_iald X.1 X.2.1 X.2.2.2.2.2.1 hH.1 k 0 (zgetc Z g w hk (by decide)) rfl h1 hdg kk
theorem w_bald (X : Amb p s m args meth c cc nL own Z g) (hH : HW Z g w s.heap H locs) {k : Nat} {i x : Int32} (h : rdI Z w k i = some x) (hk : zct Z k = 22) (hdg : decode cc pc = .ok (.baload, 1))
    (kk : W p l e R s m args below meth c H locs cells slots Q (F0 m (pc + 1) ls (.int x :: rest))) : W p l e R s m args below meth c H locs cells slots Q (F0 m pc ls (.int i :: .ref (g.2.2 k) :: rest)) := by
  obtain ⟨h1, h2⟩ := rd_in (a := x) h
  cases h2
  exact va_bald X.1 X.2.1 X.2.2.2.2.2.1 hH.1 k 2 (zgetc Z g w hk (by decide)) rfl h1 hdg kk
theorem w_lald (X : Amb p s m args meth c cc nL own Z g) (hH : HW Z g w s.heap H locs) {k : Nat} {i : Int32} {x : Int64} (h : rdL Z w k i = some x) (hk : zct Z k = 21) (hdg : decode cc pc = .ok (.laload, 1))
    (kk : W p l e R s m args below meth c H locs cells slots Q (F0 m (pc + 1) ls (.long x :: rest))) : W p l e R s m args below meth c H locs cells slots Q (F0 m pc ls (.int i :: .ref (g.2.2 k) :: rest)) := by
  obtain ⟨h1, h2⟩ := rd_in (a := x) h
  cases h2
  exact va_lald X.1 X.2.1 X.2.2.2.2.2.1 hH.1 k 1 (zgetc Z g w hk (by decide)) rfl h1 hdg kk
theorem w_aald (X : Amb p s m args meth c cc nL own Z g) (hH : HW Z g w s.heap H locs) {k t q : Nat} {i : Int32} (h : rdQ Z k i t = some q) (hk : zct Z k = 24) (hdg : decode cc pc = .ok (.aaload, 1))
    (kk : zct Z q = t → W p l e R s m args below meth c H locs cells slots Q (F0 m (pc + 1) ls (.ref (g.2.2 q) :: rest))) : W p l e R s m args below meth c H locs cells slots Q (F0 m pc ls (.int i :: .ref (g.2.2 k) :: rest)) := by
  obtain ⟨h1, h2⟩ := rd_in (a := q) h
  by_cases h3 : zct Z (zrf Z k i.toNatClampNeg) = t
  · rw [if_pos h3] at h2
    cases h2
    exact va_aldq X.1 X.2.1 X.2.2.2.2.2.1 hH.1 k 4 (zgetc Z g w hk (by decide)) rfl h1 hdg (kk h3)
  · rw [if_neg h3] at h2
    cases h2
theorem w_iast (X : Amb p s m args meth c cc nL own Z g) (hH : HW Z g w s.heap H locs) {k : Nat} {i x : Int32} {w2 : Wd} (h : wrI Z w k i x = some w2) (hk : zct Z k = 20) (hdg : decode cc pc = .ok (.iastore, 1))
    (kk : ∀ (H : Heap) (locs : List Loc), HW Z g w2 s.heap H locs → W p l e R s m args below meth c H locs cells slots Q (F0 m (pc + 1) ls rest)) : W p l e R s m args below meth c H locs cells slots Q (F0 m pc ls (.int x :: .int i :: .ref (g.2.2 k) :: rest)) := by
  obtain ⟨h1, h2⟩ := rd_in (a := w2) h
  cases h2
  refine va_iast X.1 X.2.1 X.2.2.2.2.2.1 hH.1 hH.2.1 hH.2.2 k 0 (zgetc Z g w hk (by decide)) rfl h1 hdg (fun H1 locs1 a1 a2 a3 => ?_)
  rw [zset_ai hk (Or.inl rfl) rfl] at a1 a2
  exact kk H1 locs1 ⟨a1, a2, a3⟩
theorem w_bast (X : Amb p s m args meth c cc nL own Z g) (hH : HW Z g w s.heap H locs) {k : Nat} {i x : Int32} {w2 : Wd} (h : wrI Z w k i (jbyte x) = some w2) (hk : zct Z k = 22) (hdg : decode cc pc = .ok (.bastore, 1))
    (kk : ∀ (H : Heap) (locs : List Loc), HW Z g w2 s.heap H locs → W p l e R s m args below meth c H locs cells slots Q (F0 m (pc + 1) ls rest)) : W p l e R s m args below meth c H locs cells slots Q (F0 m pc ls (.int x :: .int i :: .ref (g.2.2 k) :: rest)) := by
  obtain ⟨h1, h2⟩ := rd_in (a := w2) h
  cases h2
  refine va_bast X.1 X.2.1 X.2.2.2.2.2.1 hH.1 hH.2.1 hH.2.2 k 2 (zgetc Z g w hk (by decide)) rfl h1 hdg (fun H1 locs1 a1 a2 a3 => ?_)
  rw [vp_nar_byte] at a1 a2
  rw [zset_ai hk (Or.inr (Or.inl rfl)) rfl] at a1 a2
  exact kk H1 locs1 ⟨a1, a2, a3⟩
theorem w_last (X : Amb p s m args meth c cc nL own Z g) (hH : HW Z g w s.heap H locs) {k : Nat} {i : Int32} {x : Int64} {w2 : Wd} (h : wrL Z w k i x = some w2) (hk : zct Z k = 21) (hdg : decode cc pc = .ok (.lastore, 1))
    (kk : ∀ (H : Heap) (locs : List Loc), HW Z g w2 s.heap H locs → W p l e R s m args below meth c H locs cells slots Q (F0 m (pc + 1) ls rest)) : W p l e R s m args below meth c H locs cells slots Q (F0 m pc ls (.long x :: .int i :: .ref (g.2.2 k) :: rest)) := by
  obtain ⟨h1, h2⟩ := rd_in (a := w2) h
  cases h2
  refine va_last X.1 X.2.1 X.2.2.2.2.2.1 hH.1 hH.2.1 hH.2.2 k 1 (zgetc Z g w hk (by decide)) rfl h1 hdg (fun H1 locs1 a1 a2 a3 => ?_)
  rw [zset_al hk] at a1 a2
  exact kk H1 locs1 ⟨a1, a2, a3⟩
theorem w_alen (X : Amb p s m args meth c cc nL own Z g) (hH : HW Z g w s.heap H locs) {k t : Nat} (hk : zct Z k = t) (ht : t = 20 ∨ t = 21) (hdg : decode cc pc = .ok (.arraylength, 1))
    (kk : W p l e R s m args below meth c H locs cells slots Q (F0 m (pc + 1) ls (.int (nI (zln Z k)) :: rest))) : W p l e R s m args below meth c H locs cells slots Q (F0 m pc ls (.ref (g.2.2 k) :: rest)) := by
  rcases ht with rfl | rfl
  · exact va_alen X.1 X.2.1 X.2.2.2.2.2.1 hH.1 k 0 (zgetc Z g w hk (by decide)) (ty := .int) rfl rfl hdg kk
  · exact va_alen X.1 X.2.1 X.2.2.2.2.2.1 hH.1 k 1 (zgetc Z g w hk (by decide)) (ty := .long) rfl rfl hdg kk
/-- the ends -/
theorem w_iret {v : Int32} (X : Amb p s m args meth c cc nL own Z g) (hH : HW Z g w s.heap H locs) (hr : meth.sig.returnType = some .int) (hdg : decode cc pc = .ok (.ireturn, 1)) : W p l e R s m args below meth c H locs cells slots (MQ below (Qw Z g w (some (.int v))) args s cells slots (zA Z g)) (F0 m pc ls [.int v]) :=
  W.iret X.1 X.2.1 hr (fun t ht hW => ⟨rfl, by rw [ht]; exact hH.1, hH.2.2.F ht⟩) hH.2.2.2.2 hdg X.2.2.2.2.2.2.2.2
theorem w_zret {v : Bool} (X : Amb p s m args meth c cc nL own Z g) (hH : HW Z g w s.heap H locs) (hr : meth.sig.returnType = some .boolean) (hdg : decode cc pc = .ok (.ireturn, 1)) : W p l e R s m args below meth c H locs cells slots (MQ below (Qw Z g w (some (.int (bI v)))) args s cells slots (zA Z g)) (F0 m pc ls [.int (bI v)]) :=
  W.zret X.1 X.2.1 hr (bI_nar v) (fun t ht hW => ⟨rfl, by rw [ht]; exact hH.1, hH.2.2.F ht⟩) hH.2.2.2.2 hdg X.2.2.2.2.2.2.2.2
theorem w_lret {v : Int64} (X : Amb p s m args meth c cc nL own Z g) (hH : HW Z g w s.heap H locs) (hr : meth.sig.returnType = some .long) (hdg : decode cc pc = .ok (.lreturn, 1)) : W p l e R s m args below meth c H locs cells slots (MQ below (Qw Z g w (some (.long v))) args s cells slots (zA Z g)) (F0 m pc ls [.long v]) :=
  W.lret X.1 X.2.1 hr (fun t ht hW => ⟨rfl, by rw [ht]; exact hH.1, hH.2.2.F ht⟩) hH.2.2.2.2 hdg X.2.2.2.2.2.2.2.2
theorem w_vret (X : Amb p s m args meth c cc nL own Z g) (hH : HW Z g w s.heap H locs) (hr : meth.sig.returnType = none) (hdg : decode cc pc = .ok (.return_, 1)) : W p l e R s m args below meth c H locs cells slots (MQ below (Qw Z g w none) args s cells slots (zA Z g)) (F0 m pc ls []) :=
  W.vret X.1 X.2.1 hr (fun t ht hW => ⟨rfl, by rw [ht]; exact hH.1, hH.2.2.F ht⟩) hH.2.2.2.2 hdg X.2.2.2.2.2.2.2.2
theorem w_aret {q : Nat} {C : String} (X : Amb p s m args meth c cc nL own Z g) (hH : HW Z g w s.heap H locs) (hr : meth.sig.returnType = some (.object C)) (hdg : decode cc pc = .ok (.areturn, 1)) : W p l e R s m args below meth c H locs cells slots (MQ below (Qw Z g w (some (.ref (g.2.2 q)))) args s cells slots (zA Z g)) (F0 m pc ls [.ref (g.2.2 q)]) :=
  W.aret X.1 X.2.1 hr (Or.inl ⟨C, rfl⟩) (Or.inr ⟨_, rfl⟩) (fun t ht hW => ⟨rfl, by rw [ht]; exact hH.1, hH.2.2.F ht⟩) hH.2.2.2.2 hdg X.2.2.2.2.2.2.2.2
theorem w_tret {v : Int32} {ty : FieldType} (X : Amb p s m args meth c cc nL own Z g) (hH : HW Z g w s.heap H locs) (hr : meth.sig.returnType = some ty) (hn : narrow ty (.int v) = .int v) (hdg : decode cc pc = .ok (.ireturn, 1)) : W p l e R s m args below meth c H locs cells slots (MQ below (Qw Z g w (some (.int v))) args s cells slots (zA Z g)) (F0 m pc ls [.int v]) :=
  W.zret X.1 X.2.1 hr hn (fun t ht hW => ⟨rfl, by rw [ht]; exact hH.1, hH.2.2.F ht⟩) hH.2.2.2.2 hdg X.2.2.2.2.2.2.2.2
/-- values that come from two roads -/
theorem w_b1 {P : Prop} [Decidable P] (h : P) (J : W p l e R s m args below meth c H locs cells slots Q (F0 m pc ls (.int (bI (decide P)) :: rest))) : W p l e R s m args below meth c H locs cells slots Q (F0 m pc ls (.int 1 :: rest)) := by
  rw [decide_eq_true h] at J
  exact J
theorem w_b0 {P : Prop} [Decidable P] (h : ¬ P) (J : W p l e R s m args below meth c H locs cells slots Q (F0 m pc ls (.int (bI (decide P)) :: rest))) : W p l e R s m args below meth c H locs cells slots Q (F0 m pc ls (.int 0 :: rest)) := by
  rw [decide_eq_false h] at J
  exact J
/-- calls -/
theorem zz_pc {Z : Shp} {g : Gh} {w : Wd} (X : Amb p s m args meth c cc nL own Z g) (hH : HW Z g w s.heap H locs) (As : List Value) : FrameBlind (Pcw Z g w As) ∧ ∀ U : State, U.heap = H → s.WarmedH U.vm → Pcw Z g w As As.toArray U := by
  obtain ⟨hx, hb, hml, hown, ht, hK, hN, hZ, -⟩ := X
  refine ⟨fun a U g2 mk q => ?_, fun U hU hW => ⟨rfl, ?_⟩⟩
  · obtain ⟨q0, qP, qD, qK, qN, qZ⟩ := q
    exact ⟨q0, qP, qD, va_K.moved (u := U) (U := U.calling g2 mk a) (Vm.Alike.refl U.vm) qK, zz_same (u := U) (U := U.calling g2 mk a) rfl qN, ZS.same (u := U) (U := U.calling g2 mk a) (H := U.heap) rfl qZ⟩
  · exact ⟨by rw [hU]; exact hH.1, hH.2.1, va_K.moved hW.alike hK, zz_warm hW hN, by rw [hU]; exact (hZ.kept hH.2.2).warm hW⟩
theorem w_run {rest2 : List Value} {st0 : List Value} {a : Array Value} {w2 : Wd} {v : Option Value} (hr : va_Run p l e R s m args below meth c H locs cells slots 0 0 (F0 m pc ls st0) rest2 (Qw Z g w2 v a) (zA Z g)) (hH : HW Z g w s.heap H locs)
    (kk : ∀ (H : Heap) (locs : List Loc), HW Z g w2 s.heap H locs → W p l e R s m args below meth c H locs cells slots Q (F0 m (pc + 3) ls (v.toList ++ rest2))) : W p l e R s m args below meth c H locs cells slots Q (F0 m pc ls st0) := by
  intro T hT X
  obtain ⟨v2, st₀, t, T', L, h0, X', hL, e1, e2, ⟨hv, hP, hz, hk⟩, st⟩ := hr T hT X
  cases hv
  rw [h0] at hz hk
  have hS := hH.2.2
  obtain ⟨t2, a1, b1⟩ := kk T'.heap (locs ++ L) ⟨by rw [e1]; exact hP, zD hH.2.1, Nat.le_trans hS.1 (by rw [e1]; exact hz), fun q h1 h2 => by rw [e1, hk q (Nat.lt_of_lt_of_le h1 hS.1) h2]; exact hS.2.1 q h1 h2, fun q hq => by
      rcases List.mem_append.mp hq with h | h
      · exact hS.2.2 q h
      · exact hL q h⟩ T' rfl X'
  exact ⟨t2, st t2 a1, b1⟩
variable {y : MethodName} {bytes : ByteArray} {maxL d idx n k ci : Nat} {ret : Option FieldType} {As st0 : List Value} {w2 : Wd} {v : Option Value}
theorem w_callV0 (X : Amb p s m args meth c cc nL own Z g) (hH : HW Z g w s.heap H locs) (hM : Met l y (Cond.code y bytes maxL ret :: TT) (rmd d) (Pcw Z g w (.ref k :: As)) (Qw Z g w2 v) 0 0 (zA Z g)) (lk : MLk own idx y) (ms : MSt y bytes maxL ret n) (im : IMt y) (hrec : ∃ cell : Cell, H[k]? = some cell ∧ cell.vm.isStatics = false ∧ s.vm.findClass y.cls = some cell.cls)
    (hR : d + 1 ≤ R.frames ∧ 8 + (maxL + 11) + 40 * d ≤ R.locals) (hn : As.length = n) (hst : st0 = As.reverse ++ .ref k :: rest) (hsz : ls.size = nL) (hW : (rest.map fun v => v.category).sum ≤ 8) (hdg : decode cc pc = .ok (.invokevirtual idx, 3)) (hf : cells + 0 ≤ R.cells ∧ slots + 0 ≤ R.slots) {st1 : List Value} (hs1 : v.toList ++ rest = st1)
    (kk : ∀ (H : Heap) (locs : List Loc), HW Z g w2 s.heap H locs → W p l e R s m args below meth c H locs cells slots Q (F0 m (pc + 3) ls st1)) : W p l e R s m args below meth c H locs cells slots Q (F0 m pc ls st0) := by
  subst hs1
  obtain ⟨hx, hb, hml, hown, ht, hK, hN, hZ, hlk⟩ := id X
  obtain ⟨m1, m2, m3⟩ := ms
  have hpc := zz_pc X hH (.ref k :: As)
  have hp : PreV s H y.cls k (Pcw Z g w (.ref k :: As)) As := ⟨hpc.1, hrec, hpc.2⟩
  rcases lk with lk | ⟨host, lk⟩
  · exact w_run (va_runV (As := As) (rest := rest) ⟨hx, hb, hml, hown, ht⟩ hM ⟨callB_of n ht (zz_good m1) rfl rfl rfl (ht _ m2) (ht _ lk) m3 hR, ht _ im.1, ht _ im.2⟩ hp rfl hn hsz hst (lv_room hW) hdg hf) hH kk
  · exact w_run (va_runVN (As := As) (rest := rest) (host := host) ⟨hx, hb, hml, hown, ht⟩ hM ⟨va_cnB n ht (zz_good m1) rfl rfl rfl (hN _ lk) (ht _ m2) m3 hR, ht _ im.1, ht _ im.2⟩ hp rfl hn hsz hst (lv_room hW) hdg hf) hH kk
theorem w_callV (X : Amb p s m args meth c cc nL own Z g) (hH : HW Z g w s.heap H locs) (hM : Met l y (Cond.code y bytes maxL ret :: TT) (rmd d) (Pcw Z g w (.ref (g.2.2 k) :: As)) (Qw Z g w2 v) 0 0 (zA Z g)) (lk : MLk own idx y) (ms : MSt y bytes maxL ret n) (im : IMt y) (hk : zct Z k = ci) (cn : CNm ci y.cls)
    (hR : d + 1 ≤ R.frames ∧ 8 + (maxL + 11) + 40 * d ≤ R.locals) (hn : As.length = n) (hst : st0 = As.reverse ++ .ref (g.2.2 k) :: rest) (hsz : ls.size = nL) (hW : (rest.map fun v => v.category).sum ≤ 8) (hdg : decode cc pc = .ok (.invokevirtual idx, 3)) (hf : cells + 0 ≤ R.cells ∧ slots + 0 ≤ R.slots) {st1 : List Value} (hs1 : v.toList ++ rest = st1)
    (kk : ∀ (H : Heap) (locs : List Loc), HW Z g w2 s.heap H locs → W p l e R s m args below meth c H locs cells slots Q (F0 m (pc + 3) ls st1)) : W p l e R s m args below meth c H locs cells slots Q (F0 m pc ls st0) := by
  obtain ⟨hci, q, hq, hqy⟩ := cn
  have he := zgetc Z g w hk (by omega)
  rw [zcl_obj Z g w k hci] at he
  exact w_callV0 X hH hM lk ms im (by rw [← hqy]; exact va_recv X.2.2.2.2.2.1 hH.1 hq he) hR hn hst hsz hW hdg hf hs1 kk
theorem w_callS (X : Amb p s m args meth c cc nL own Z g) (hH : HW Z g w s.heap H locs) (hM : Met l y (Cond.code y bytes maxL ret :: TT) (rmd d) (Pcw Z g w As) (Qw Z g w2 v) 0 0 (zA Z g)) (lk : MLk own idx y) (ms : MSt y bytes maxL ret n) (im : Cond.static y ∈ TT)
    (hR : d + 1 ≤ R.frames ∧ 8 + (maxL + 11) + 40 * d ≤ R.locals) (hn : As.length = n) (hst : st0 = As.reverse ++ rest) (hsz : ls.size = nL) (hW : (rest.map fun v => v.category).sum ≤ 8) (hdg : decode cc pc = .ok (.invokestatic idx, 3)) (hf : cells + 0 ≤ R.cells ∧ slots + 0 ≤ R.slots) {st1 : List Value} (hs1 : v.toList ++ rest = st1)
    (kk : ∀ (H : Heap) (locs : List Loc), HW Z g w2 s.heap H locs → W p l e R s m args below meth c H locs cells slots Q (F0 m (pc + 3) ls st1)) : W p l e R s m args below meth c H locs cells slots Q (F0 m pc ls st0) := by
  subst hs1
  obtain ⟨hx, hb, hml, hown, ht, hK, hN, hZ, hlk⟩ := id X
  obtain ⟨m1, m2, m3⟩ := ms
  have hpc := zz_pc X hH As
  rcases lk with lk | ⟨host, lk⟩
  · exact w_run (va_runS (As := As) (rest := rest) ⟨hx, hb, hml, hown, ht⟩ hM ⟨callB_of n ht (zz_good m1) rfl rfl rfl (ht _ m2) (ht _ lk) m3 hR, ht _ im⟩ hpc rfl hn hsz hst (lv_room hW) hdg hf) hH kk
  · exact w_run (va_runSN (As := As) (rest := rest) (host := host) ⟨hx, hb, hml, hown, ht⟩ hM ⟨va_cnB n ht (zz_good m1) rfl rfl rfl (hN _ lk) (ht _ m2) m3 hR, ht _ im, trivial⟩ hpc rfl hn hsz hst (lv_room hW) hdg hf) hH kk
end RW2
