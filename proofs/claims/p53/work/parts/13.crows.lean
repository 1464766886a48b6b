/-! Constructors: rows over a list of cells that grows. -/
/-- what holds all along a constructor -/
def AmC (p : Program) (s : State) (m : MethodId) (args : Array Value) (meth : Method) (c : Code) (cc : ByteArray) (nL : Nat) (own : String) (g : Gh) : Prop :=
  p.tables.exec = Jvm.exec ∧ c.code = cc ∧ c.maxLocals = nL ∧ s.vm.findClass own = some m.cls ∧ (∀ w ∈ TT, w.before args s = true) ∧ va_K g.1 vwCl (ztys g) s ∧ (∀ w ∈ NL, va_Nw w s) ∧ meth.locks = false
def LW (g : Gh) (A : Nat → Prop) (ws : va_W) (H0 H : Heap) (locs : List Loc) : Prop := va_P g.1 vwCl ws H ∧ va_D A ws ∧ va_S A H0 H locs ∧ ∀ q, H0.size ≤ q → A q
/-- a fresh array -/
def za (g : Gh) (i N : Nat) : va_E := match i with
  | 1 => .inl (g.2.1 1, N, .inr (.inl fun _ => 0))
  | i => .inl (g.2.1 i, N, .inl fun _ => 0)
def CtP (g : Gh) (q0 ci : Nat) (df : List Value) (sz : Nat) (As : List Value) : Array Value → State → Prop := va_Pc (.ref q0 :: As) (fun U => U.heap.size = sz ∧ va_P g.1 vwCl [(q0, .inr (ci, df))] U.heap ∧ va_K g.1 vwCl (ztys g) U ∧ (∀ w ∈ NL, va_Nw w U))
def CtA (q0 ci : Nat) (df : List Value) (sz : Nat) : Nat → Prop := va_A [(q0, .inr (ci, df))] sz
def CtQ (g : Gh) (q0 ci : Nat) (df : List Value) (sz : Nat) (B : va_W → Prop) : Array Value → State → Outcome → State → Prop := va_Qv (fun _ : Unit => True) (fun _ t => ∃ r : va_W, B r ∧ va_P g.1 vwCl r t.heap ∧ va_D (CtA q0 ci df sz) r) (CtA q0 ci df sz)
def CtM (l : Launch) (g : Gh) (y : MethodName) (cc : ByteArray) (nL d mc ms ci : Nat) (df : List Value) (As : List Value) (B : Nat → va_W → Prop) : Prop :=
  ∀ q0 sz, Met l y (Cond.code y cc nL none :: TT) { frames := d, cells := mc, slots := ms, locals := 40 * d } (CtP g q0 ci df sz As) (CtQ g q0 ci df sz (B q0)) mc ms (CtA q0 ci df sz)
section CR
variable {p : Program} {l : Launch} {e : Env} {R : Room} {s : State} {m : MethodId} {args : Array Value} {below : List Frame} {meth : Method} {c : Code} {H : Heap} {locs : List Loc} {cells slots : Nat} {Q : State → Prop}
variable {cc : ByteArray} {nL : Nat} {own : String} {g : Gh} {pc : Nat} {ls : Array Slot} {rest : List Value} {A : Nat → Prop} {ws : va_W}
theorem x_newa (X : AmC p s m args meth c cc nL own g) (hL : LW g A ws s.heap H locs) {i : Nat} {ty : FieldType} {atype : ArrayType} (hty : newarray.typeOf atype = ty) (hi : (ztys g)[i]? = some (g.2.1 i, ty)) (hp : ∀ cA : ClassId, va_RA s cA ty = (s.vm.findClass ("[" ++ ty.toString) = some cA)) (hw : Cond.arrayClass (newarray.typeOf atype) ∈ TT)
    {n : Int32} {N : Nat} {a0 : vp_A} (ha : ∀ cA : ClassId, vp_cell cA a0 = arrV cA N (fun _ => defaultValue ty)) (hz : za g i N = .inl (g.2.1 i, a0)) (hn : ¬ n < 0) (hN : n.toNatClampNeg = N) (hb2 : N * componentBytes ty ≤ 536870912) (hcells : cells + 1 ≤ R.cells) (hslots : slots + N ≤ R.slots) (hdg : decode cc pc = .ok (.newarray atype, 2))
    (kk : ∀ (q : Nat) (H1 : Heap), LW g A (ws ++ [(q, za g i N)]) s.heap H1 locs → W p l e R s m args below meth c H1 locs (cells + 1) (slots + N) Q (F0 m (pc + 2) ls (.ref q :: rest))) : W p l e R s m args below meth c H locs cells slots Q (F0 m pc ls (.int n :: rest)) := by
  obtain ⟨hx, hb, hml, hown, ht, hK, hN2, hlk⟩ := X
  obtain ⟨hP, hD, hS, hA⟩ := hL
  refine va_newa hx hb (ht _ hw) hty hK hP hD hS hA ha hn hN hb2 hcells hslots hdg (fun q cA H1 k1 k2 k3 k4 => ?_)
  have h1 := (hK.2 i _ hi).2
  have h2 := (k1.2 (ztys g).length (cA, ty) (by rw [List.getElem?_append_right (Nat.le_refl _), Nat.sub_self]; rfl)).2
  dsimp only at h1 h2
  rw [hp] at h1 h2
  have e : cA = g.2.1 i := Option.some.inj (h2.symm.trans h1)
  subst e
  rw [← hz] at k2 k3
  exact kk q H1 ⟨k2, k3, k4, hA⟩
theorem x_newI (X : AmC p s m args meth c cc nL own g) (hL : LW g A ws s.heap H locs) {n : Int32} {N : Nat} (hn : ¬ n < 0) (hN : n.toNatClampNeg = N) (hb2 : N ≤ 2000) (hcells : cells + 1 ≤ R.cells) (hslots : slots + N ≤ R.slots) (hdg : decode cc pc = .ok (.newarray .int, 2))
    (kk : ∀ (q : Nat) (H1 : Heap), LW g A (ws ++ [(q, za g 0 N)]) s.heap H1 locs → W p l e R s m args below meth c H1 locs (cells + 1) (slots + N) Q (F0 m (pc + 2) ls (.ref q :: rest))) : W p l e R s m args below meth c H locs cells slots Q (F0 m pc ls (.int n :: rest)) :=
  x_newa (atype := .int) X hL rfl (i := 0) rfl (fun _ => rfl) tw_1_72 (a0 := (N, .inl fun _ => 0)) (fun _ => rfl) rfl hn hN (by show N * 4 ≤ _; omega) hcells hslots hdg kk
theorem x_newJ (X : AmC p s m args meth c cc nL own g) (hL : LW g A ws s.heap H locs) {n : Int32} {N : Nat} (hn : ¬ n < 0) (hN : n.toNatClampNeg = N) (hb2 : N ≤ 2000) (hcells : cells + 1 ≤ R.cells) (hslots : slots + N ≤ R.slots) (hdg : decode cc pc = .ok (.newarray .long, 2))
    (kk : ∀ (q : Nat) (H1 : Heap), LW g A (ws ++ [(q, za g 1 N)]) s.heap H1 locs → W p l e R s m args below meth c H1 locs (cells + 1) (slots + N) Q (F0 m (pc + 2) ls (.ref q :: rest))) : W p l e R s m args below meth c H locs cells slots Q (F0 m pc ls (.int n :: rest)) :=
  x_newa (atype := .long) X hL rfl (i := 1) rfl (fun _ => rfl) tw_1_100 (a0 := (N, .inr (.inl fun _ => 0))) (fun _ => rfl) rfl hn hN (by show N * 8 ≤ _; omega) hcells hslots hdg kk
theorem x_newB (X : AmC p s m args meth c cc nL own g) (hL : LW g A ws s.heap H locs) {n : Int32} {N : Nat} (hn : ¬ n < 0) (hN : n.toNatClampNeg = N) (hb2 : N ≤ 2000) (hcells : cells + 1 ≤ R.cells) (hslots : slots + N ≤ R.slots) (hdg : decode cc pc = .ok (.newarray .byte, 2))
    (kk : ∀ (q : Nat) (H1 : Heap), LW g A (ws ++ [(q, za g 2 N)]) s.heap H1 locs → W p l e R s m args below meth c H1 locs (cells + 1) (slots + N) Q (F0 m (pc + 2) ls (.ref q :: rest))) : W p l e R s m args below meth c H locs cells slots Q (F0 m pc ls (.int n :: rest)) :=
  x_newa (atype := .byte) X hL rfl (i := 2) rfl (fun _ => rfl) tw_1_71 (a0 := (N, .inl fun _ => 0)) (fun _ => rfl) rfl hn hN (by show N * 1 ≤ _; omega) hcells hslots hdg kk
theorem ref_fit {ty : FieldType} {a : Nat} (h : fits ty (.ref 0) = true) : narrow ty (.ref a) = .ref a ∧ fits ty (.ref a) = true := by
  cases ty <;> first | exact ⟨rfl, rfl⟩ | cases h
/-- a final field of 'this', which stands at place j of the list -/
theorem x_putF (X : AmC p s m args meth c cc nL own g) (hL : LW g A ws s.heap H locs) (hinit : meth.name = "<init>") {ci k idx a j : Nat} {fs : List Value} {v : Value} {q : vw_C} {ty : FieldType} (he : ws[j]? = some (a, .inr (ci, fs))) (hq : vwCl[ci]? = some q) (hcs : CSt ci) (hk : k < q.2.2) (hlink : Cond.fieldLink own idx q.1 (q.2.1 k).2.1 (q.2.1 k).2.2.1 ∈ TT) (hdec : (q.2.1 k).1 = q.1) (hfin : (q.2.1 k).2.2.2 = true) (hown2 : q.1 = own)
    (hd : parseFieldDescriptor (q.2.1 k).2.2.1 = some ty) (hn : narrow ty v = v) (hfit : fits ty v = true) (hl : k < fs.length) {ws2 : va_W} (hws : ws.set j (a, .inr (ci, fs.set k v)) = ws2) (hdg : decode cc pc = .ok (.putfield idx, 3))
    (kk : ∀ (H1 : Heap) (locs1 : List Loc), LW g A ws2 s.heap H1 locs1 → W p l e R s m args below meth c H1 locs1 cells slots Q (F0 m (pc + 3) ls rest)) : W p l e R s m args below meth c H locs cells slots Q (F0 m pc ls (v :: .ref a :: rest)) := by
  obtain ⟨hx, hb, hml, hown, ht, hK, hN, hlk⟩ := X
  obtain ⟨hP, hD, hS, hA⟩ := hL
  obtain ⟨q2, hq2, hci, hn2, hin, ⟨ty0, hty⟩, hnm⟩ := hcs
  have e2 : q2 = q := Option.some.inj (hq2.symm.trans hq)
  subst e2
  subst hws
  exact va_putF hx hb (ref := q2.1) ht hin ty0 hty hnm hown hK hP hD hS j he hq k hk (ht _ hlink) (fun x h => by rw [hdec] at h; exact h) hfin hinit (hdec.trans hown2) hd hn hfit hl hdg (fun H1 locs1 a1 a2 a3 => kk H1 locs1 ⟨a1, a2, a3, hA⟩)
theorem x_put (X : AmC p s m args meth c cc nL own g) (hL : LW g A ws s.heap H locs) {ci k idx a j : Nat} {fs : List Value} {v : Value} {q : vw_C} {ty : FieldType} (he : ws[j]? = some (a, .inr (ci, fs))) (hq : vwCl[ci]? = some q) (hcs : CSt ci) (hk : k < q.2.2) (hlink : Cond.fieldLink own idx q.1 (q.2.1 k).2.1 (q.2.1 k).2.2.1 ∈ TT) (hdec : (q.2.1 k).1 = q.1) (hfin : (q.2.1 k).2.2.2 = false)
    (hd : parseFieldDescriptor (q.2.1 k).2.2.1 = some ty) (hn : narrow ty v = v) (hfit : fits ty v = true) (hl : k < fs.length) {ws2 : va_W} (hws : ws.set j (a, .inr (ci, fs.set k v)) = ws2) (hdg : decode cc pc = .ok (.putfield idx, 3))
    (kk : ∀ (H1 : Heap) (locs1 : List Loc), LW g A ws2 s.heap H1 locs1 → W p l e R s m args below meth c H1 locs1 cells slots Q (F0 m (pc + 3) ls rest)) : W p l e R s m args below meth c H locs cells slots Q (F0 m pc ls (v :: .ref a :: rest)) := by
  obtain ⟨hx, hb, hml, hown, ht, hK, hN, hlk⟩ := X
  obtain ⟨hP, hD, hS, hA⟩ := hL
  obtain ⟨q2, hq2, hci, hn2, hin, ⟨ty0, hty⟩, hnm⟩ := hcs
  have e2 : q2 = q := Option.some.inj (hq2.symm.trans hq)
  subst e2
  subst hws
  exact va_put hx hb (ref := q2.1) ht hin ty0 hty hnm hown hK hP hD hS j he hq k hk (ht _ hlink) (fun x h => by rw [hdec] at h; exact h) hfin hd hn hfit hl hdg (fun H1 locs1 a1 a2 a3 => kk H1 locs1 ⟨a1, a2, a3, hA⟩)
theorem x_new (X : AmC p s m args meth c cc nL own g) (hL : LW g A ws s.heap H locs) {ci idx : Nat} {q : vw_C} {ty : Nat → FieldType} {df : List Value} (hq : vwCl[ci]? = some q) (hcs : CSt ci) (hty : ∀ k, k < q.2.2 → parseFieldDescriptor (q.2.1 k).2.2.1 = some (ty k)) (hcl : Cond.classLink own idx q.1 ∈ TT) (hinst : Cond.instantiable q.1 q.2.2 ∈ TT) (hini : Cond.initialized q.1 ∈ TT) (hdf : ∀ j, j < q.2.2 → defaultValue (ty j) = vp_V df j) {N : Nat} (hNN : q.2.2 = N) (hcells : cells + 1 ≤ R.cells) (hslots : slots + N ≤ R.slots) (hdg : decode cc pc = .ok (.new idx, 3))
    (kk : ∀ (a : Nat) (H1 : Heap), LW g A (ws ++ [(a, .inr (ci, df))]) s.heap H1 locs → W p l e R s m args below meth c H1 locs (cells + 1) (slots + N) Q (F0 m (pc + 3) ls (.ref a :: rest))) : W p l e R s m args below meth c H locs cells slots Q (F0 m pc ls rest) := by
  obtain ⟨hx, hb, hml, hown, ht, hK, hN, hlk⟩ := X
  obtain ⟨hP, hD, hS, hA⟩ := hL
  obtain ⟨q2, hq2, hci, hn2, hin, -, hnm⟩ := hcs
  have e2 : q2 = q := Option.some.inj (hq2.symm.trans hq)
  subst e2
  subst hNN
  exact va_new hx hb ht hin ty hty hown (ht _ hcl) (ht _ hinst) (ht _ hini) hK hP hD hS hA hq hdf hcells hslots hdg (fun a H1 a1 a2 a3 => kk a H1 ⟨a1, a2, a3, hA⟩)
theorem LW.join {nb : va_W} {a : Nat} {x : va_E} {H1 : Heap} {locs1 : List Loc} (hL : LW g A (ws ++ [(a, x)]) s.heap H locs) (hk : ∀ q : Nat, q < H.size → ¬ va_A [(a, x)] H.size q → H1[q]? = H[q]?) (hP : va_P g.1 vwCl nb H1) (hD : va_D (va_A [(a, x)] H.size) nb) (hS : va_S A s.heap H1 locs1) : LW g A (ws ++ nb) s.heap H1 locs1 := by
  obtain ⟨p1, d1, s1, hA⟩ := hL
  have hin : ∀ (k : Nat) (q : Nat × va_E), ws[k]? = some q → (ws ++ [(a, x)])[k]? = some q := fun k q hk => by
    rw [List.getElem?_append_left (List.getElem?_eq_some_iff.mp hk).1]; exact hk
  have hlast : (ws ++ [(a, x)])[ws.length]? = some (a, x) := by rw [List.getElem?_append_right (Nat.le_refl _), Nat.sub_self]; rfl
  have old : ∀ (k : Nat) (q : Nat × va_E), ws[k]? = some q → q.1 < H.size ∧ ¬ va_A [(a, x)] H.size q.1 := fun k q hq => by
    have h1 := (p1 k q (hin k q hq)).lt
    refine ⟨h1, fun z => ?_⟩
    rcases z with ⟨k2, e2, h2⟩ | h2
    · have hk2 : k2 = 0 := by have := (List.getElem?_eq_some_iff.mp h2).1; simp at this; exact this
      subst hk2
      cases h2
      have := d1.1 k ws.length q (q.1, x) (hin k q hq) hlast rfl
      have h3 := (List.getElem?_eq_some_iff.mp hq).1
      omega
    · omega
  have aIn : ∀ q, va_A [(a, x)] H.size q → A q := fun q z => by
    rcases z with ⟨k2, e2, h2⟩ | h2
    · have hk2 : k2 = 0 := by have := (List.getElem?_eq_some_iff.mp h2).1; simp at this; exact this
      subst hk2
      cases h2
      exact d1.2 ws.length _ hlast
    · exact hA q (Nat.le_trans s1.1 h2)
  refine ⟨va_P.app (fun k q hkq => (p1 k q (hin k q hkq)).kept (hk _ (old k q hkq).1 (old k q hkq).2)) hP, ⟨fun i j p q hi hj e => ?_, fun k q hkq => ?_⟩, hS, hA⟩
  · by_cases h1 : i < ws.length
    · rw [List.getElem?_append_left h1] at hi
      by_cases h2 : j < ws.length
      · rw [List.getElem?_append_left h2] at hj
        exact d1.1 i j p q (hin i p hi) (hin j q hj) e
      · rw [List.getElem?_append_right (by omega)] at hj
        exact absurd (by rw [e]; exact hD.2 _ q hj) (old i p hi).2
    · rw [List.getElem?_append_right (by omega)] at hi
      by_cases h2 : j < ws.length
      · rw [List.getElem?_append_left h2] at hj
        exact absurd (by rw [← e]; exact hD.2 _ p hi) (old j q hj).2
      · rw [List.getElem?_append_right (by omega)] at hj
        have := hD.1 _ _ p q hi hj e
        omega
  · by_cases h1 : k < ws.length
    · rw [List.getElem?_append_left h1] at hkq
      exact d1.2 k q (hin k q hkq)
    · rw [List.getElem?_append_right (by omega)] at hkq
      exact aIn _ (hD.2 _ q hkq)
theorem x_ctor (X : AmC p s m args meth c cc nL own g) {a ci d mc ms2 n idx maxL : Nat} {df : List Value} {As st0 : List Value} {y : MethodName} {bytes : ByteArray} {host : String} {B : Nat → va_W → Prop} (hL : LW g A (ws ++ [(a, .inr (ci, df))]) s.heap H locs) (hM : CtM l g y bytes maxL d mc ms2 ci df As B) (lk : Cond.methodLinkNest own idx y host ∈ NL) (m1 : Cond.code y bytes maxL none ∈ TT) (m2 : Cond.initialized y.cls ∈ TT) (m3 : y.cls ≠ "java/lang/invoke/MethodHandle" ∧ y.cls ≠ "java/lang/invoke/VarHandle" ∧ (parseMethodDescriptor y.desc).map (fun d => d.parameters.length) = some n) (im : Cond.instanceMethod y ∈ TT) (hy : y.name = "<init>")
    (hR : d + 1 ≤ R.frames ∧ 8 + (maxL + 11) + 40 * d ≤ R.locals) (hn : As.length = n) (hst : st0 = As.reverse ++ .ref a :: rest) (hsz : ls.size = nL) (hW : (rest.map fun v => v.category).sum ≤ 8) (hdg : decode cc pc = .ok (.invokespecial idx, 3)) (hf : cells + mc ≤ R.cells ∧ slots + ms2 ≤ R.slots)
    (kk : ∀ (nb : va_W) (H1 : Heap) (locs1 : List Loc), B a nb → LW g A (ws ++ nb) s.heap H1 locs1 → W p l e R s m args below meth c H1 locs1 (cells + mc) (slots + ms2) Q (F0 m (pc + 3) ls rest)) : W p l e R s m args below meth c H locs cells slots Q (F0 m pc ls st0) := by
  obtain ⟨hx, hb, hml, hown, ht, hK, hN, hlk⟩ := X
  have hL' := hL
  obtain ⟨hP, hD, hS, hA⟩ := hL'
  have hlast : (ws ++ [(a, (.inr (ci, df) : va_E))])[ws.length]? = some (a, .inr (ci, df)) := by rw [List.getElem?_append_right (Nat.le_refl _), Nat.sub_self]; rfl
  have hPa : va_P g.1 vwCl [(a, .inr (ci, df))] H := fun k q hk => by
    have hk0 : k = 0 := by have := (List.getElem?_eq_some_iff.mp hk).1; simp at this; exact this
    subst hk0
    cases hk
    exact hP _ _ hlast
  have hF : ∀ q, va_A [(a, (.inr (ci, df) : va_E))] H.size q → A q := fun q z => by
    rcases z with ⟨k2, e2, h2⟩ | h2
    · have hk2 : k2 = 0 := by have := (List.getElem?_eq_some_iff.mp h2).1; simp at this; exact this
      subst hk2
      cases h2
      exact hD.2 ws.length _ hlast
    · exact hA q (Nat.le_trans hS.1 h2)
  refine va_callv (va_runIN (As := As) (rest := rest) (host := host) ⟨hx, hb, hml, hown, ht⟩ (hM a H.size) ⟨va_cnB n ht (zz_good m1) rfl rfl rfl (hN _ lk) (ht _ m2) m3 hR, hy, ht _ im⟩ ⟨fun a U g2 mk q => ?_, fun U hU hW => ⟨rfl, by rw [hU], by rw [hU]; exact hPa, va_K.moved hW.alike hK, zz_warm hW hN⟩⟩ rfl hn hsz hst (lv_room hW) hdg hf) hS (fun q _ h => hF q h) hF (fun u t H1 locs1 ht1 hvm hw hB hz1 hk1 hS1 => ?_)
  · obtain ⟨q0, q1, qP, qK, qN⟩ := q
    exact ⟨q0, q1, qP, va_K.moved (u := U) (U := U.calling g2 mk a) (Vm.Alike.refl U.vm) qK, zz_same (u := U) (U := U.calling g2 mk a) rfl qN⟩
  · obtain ⟨nb, b1, b2, b3⟩ := hB
    rw [ht1] at b2
    exact kk nb H1 locs1 b1 (hL.join hk1 b2 b3 hS1)
theorem x_obj (X : AmC p s m args meth c cc nL own g) {idx q0 : Nat} (hw : Cond.methodLink own idx objectInit ∈ TT) (h1 : Cond.instanceMethod objectInit ∈ TT) (h2 : Cond.code objectInit ⟨#[0xb1]⟩ 1 none ∈ TT) (hsz : ls.size = nL) (hf : 1 ≤ R.frames) (hlo : 12 ≤ R.locals) (hdg : decode cc pc = .ok (.invokespecial idx, 3))
    (kk : W p l e R s m args below meth c H locs cells slots Q (F0 m (pc + 3) ls [])) : W p l e R s m args below meth c H locs cells slots Q (F0 m pc ls [.ref q0]) := by
  obtain ⟨hx, hb, hml, hown, ht, hK, hN, hlk⟩ := X
  refine W.objInit hx hb hown (ht _ hw) (ht _ h1) (ht _ h2) rfl (by rw [hml]; exact hsz) rfl hdg hf (by simpa using hlo) ?_
  exact W.eq (g2 := F0 m (pc + 3) ls []) rfl kk
theorem x_end (X : AmC p s m args meth c cc nL own g) {q0 ci mc ms : Nat} {df : List Value} {B : va_W → Prop} (hL : LW g A ws s.heap H locs) (hA : ∀ q, A q ↔ CtA q0 ci df s.heap.size q) (hr : meth.sig.returnType = none) (hB : B ws) (h1 : cells ≤ mc) (h2 : slots ≤ ms) (hdg : decode cc pc = .ok (.return_, 1)) : W p l e R s m args below meth c H locs cells slots (MQ below (CtQ g q0 ci df s.heap.size B) args s mc ms (CtA q0 ci df s.heap.size)) (F0 m pc ls []) := by
  obtain ⟨hx, hb, hml, hown, ht, hK, hN, hlk⟩ := X
  obtain ⟨hP, hD, hS, hA2⟩ := hL
  have eA : A = CtA q0 ci df s.heap.size := funext fun q => propext (hA q)
  subst eA
  refine W.widen h1 h2 ?_
  exact W.vret hx hb hr (fun t ht hW => ⟨⟨(), rfl, trivial, ws, hB, by rw [ht]; exact hP, hD⟩, hS.F ht⟩) hS.2.2 hdg hlk
end CR
section CS2
variable {l : Launch}
theorem ct_start {y : MethodName} {cc : ByteArray} {maxL d mc ms ci : Nat} {df As : List Value} {B : Nat → va_W → Prop} {g : Gh} (hy : plainName y.cls = true) (hyn : y.name = "<init>") (hlen : (lg_sl (As)).length + 1 ≤ maxL)
    (body : ∀ (q0 : Nat) (p : Program) (e : Env) (s : State) (m : MethodId) (args : Array Value) (below : List Frame) (meth : Method) (c : Code) (ls : Array Slot) (A : Nat → Prop), AmC p s m args meth c cc maxL y.cls g → meth.name = "<init>" → meth.sig.returnType = none → lv_has ls maxL (lv_args 0 (.ref q0 :: As)) → LW g A [(q0, .inr (ci, df))] s.heap s.heap [] → (∀ q, A q ↔ CtA q0 ci df s.heap.size q) →
      W p l e { frames := d, cells := mc, slots := ms, locals := 40 * d } s m args below meth c s.heap [] 0 0 (MQ below (CtQ g q0 ci df s.heap.size (B q0)) args s mc ms (CtA q0 ci df s.heap.size)) (F0 m 0 ls [])) : CtM l g y cc maxL d mc ms ci df As B := by
  intro q0 sz
  refine Met.ofW (cc := cc) (maxL := maxL) (ret := none) hy rfl ?_
  intro p e s m args below meth c s₁ Bd hml hv
  obtain ⟨rfl, hsz, hP, hK, hN⟩ := hv
  subst hsz
  have hts := atoms_spec (ws := Cond.code y cc maxL none :: TT) Bd.pre
  rw [lg_entry_eq]
  refine body q0 p e s m _ below meth c _ (CtA q0 ci df s.heap.size) ⟨Bd.exec, Bd.bytes, hml, findClass_of_methodNamed Bd.named, fun w hw => hts w (List.mem_cons_of_mem _ hw), hK, hN, Bd.notSynchronized⟩ ((name_of_methodNamed Bd.named Bd.method).1.trans hyn) Bd.returns (lv_entry (.ref q0 :: As) (by rw [show (lg_sl (.ref q0 :: As)).length = (lg_sl As).length + 1 from rfl]; exact hlen)) ⟨hP, ⟨fun i j p q hi hj _ => ?_, fun k q hk => va_A.in hk⟩, va_S.rf, fun q h => Or.inr h⟩ (fun _ => Iff.rfl)
  have h1 := (List.getElem?_eq_some_iff.mp hi).1
  have h2 := (List.getElem?_eq_some_iff.mp hj).1
  simp at h1 h2
  omega
end CS2
