-- deps: 23 12
/-! Rows for the law's own methods: calls of the class, int arrays, rows of rows. -/
abbrev gW (g : Gh) (a : Nat → Nat) : Gh := (g.1, g.2.1, a)
def rdT (f : Nat → Int32) (N : Nat) (i : Int32) : Option Int32 := if i < 0 ∨ N ≤ i.toNatClampNeg then none else if 0 ≤ f i.toNatClampNeg ∧ f i.toNatClampNeg < 128 then some (f i.toNatClampNeg) else none
def updR (ff : Nat → Nat → Int32) (j : Nat) (f : Nat → Int32) : Nat → Nat → Int32 := fun q => if q = j then f else ff q
def rowsL (g : Gh) (n : Nat) (rq : Nat → Nat) (ff : Nat → Nat → Int32) : va_W := (List.range n).map (fun j => (rq j, ia g n (ff j)))
theorem rowsL_len (g : Gh) (n : Nat) (rq : Nat → Nat) (ff : Nat → Nat → Int32) : (rowsL g n rq ff).length = n := by simp [rowsL]
theorem rowsL_at (g : Gh) {n j : Nat} (rq : Nat → Nat) (ff : Nat → Nat → Int32) (h : j < n) : (rowsL g n rq ff)[j]? = some (rq j, ia g n (ff j)) := by simp [rowsL, h]
theorem rowsL_set (g : Gh) {n j : Nat} (rq : Nat → Nat) (ff : Nat → Nat → Int32) (f : Nat → Int32) (h : j < n) : (rowsL g n rq ff).set j (rq j, ia g n f) = rowsL g n rq (updR ff j f) := by
  apply List.ext_getElem?
  intro i
  rw [List.getElem?_set]
  by_cases hi : j = i
  · subst hi
    rw [if_pos rfl, if_pos (by rw [rowsL_len]; exact h), rowsL_at g rq _ h]
    simp [updR]
  · rw [if_neg hi]
    by_cases hl : i < n
    · rw [rowsL_at g rq _ hl, rowsL_at g rq _ hl]
      simp [updR, Ne.symm hi]
    · simp [rowsL, hl]
section LR2
variable {p : Program} {l : Launch} {e : Env} {R : Room} {s : State} {m : MethodId} {args : Array Value} {below : List Frame} {meth : Method} {c : Code} {H : Heap} {locs : List Loc} {cells slots : Nat} {Q : State → Prop}
variable {cc : ByteArray} {nL : Nat} {own : String} {g : Gh} {pc : Nat} {ls : Array Slot} {rest : List Value} {A : Nat → Prop} {ws W1 W2 : va_W} {w : Wd} {Lx : Nat × (Nat → Int32)} {aC : Nat → Nat}
variable {y : MethodName} {bytes : ByteArray} {maxL d idx n : Nat} {ret : Option FieldType} {As st0 : List Value} {w2 : Wd} {v : Option Value}
/-- a call of the class -/
theorem y_C (X : AmC p s m args meth c cc nL own g) (hZ : ZX Lx A g s s.heap) (hA : ∀ k, 1000 ≤ k → aC k = g.2.2 k) (W1 : va_W) (hL : LW g A (W1 ++ zcells zC (gW g aC) w) s.heap H locs) (hM : Met l y (Cond.code y bytes maxL ret :: TT) (rmd d) (Pcw zC (gW g aC) w (.ref (aC 0) :: As)) (Qw zC (gW g aC) w2 v) 0 0 (zA zC (gW g aC))) (lk : Cond.methodLink own idx y ∈ TT) (hm : MSt y bytes maxL ret n) (im : IMt y) (cn : CNm 9 y.cls)
    (hR : d + 1 ≤ R.frames ∧ 8 + (maxL + 11) + 40 * d ≤ R.locals) (hn : As.length = n) (hst : st0 = As.reverse ++ .ref (aC 0) :: rest) (hsz : ls.size = nL) (hW : (rest.map fun v => v.category).sum ≤ 8) (hdg : decode cc pc = .ok (.invokevirtual idx, 3)) (hf : cells ≤ R.cells ∧ slots ≤ R.slots) {st1 : List Value} (hs1 : v.toList ++ rest = st1)
    (kk : ∀ (H : Heap) (locs : List Loc), LW g A (W1 ++ zcells zC (gW g aC) w2) s.heap H locs → W p l e R s m args below meth c H locs cells slots Q (F0 m (pc + 3) ls st1)) : W p l e R s m args below meth c H locs cells slots Q (F0 m pc ls st0) := by
  rw [← List.append_nil (zcells zC (gW g aC) w)] at hL
  refine x_callV (g2 := gW g aC) (W1 := W1) (W2 := []) (Z := zC) (k := 0) (ci := 9) X hZ.1 rfl rfl hA hL hM (Or.inl lk) hm im rfl cn hR hn hst hsz hW hdg hf hs1 (fun H locs hL => ?_)
  rw [List.append_nil] at hL
  exact kk H locs hL
/-- an int of the script -/
theorem x_scr (X : AmC p s m args meth c cc nL own g) (hZ : ZX Lx A g s s.heap) (hL : LW g A ws s.heap H locs) {i : Int32} (hin : vp_in i Lx.1) (hdg : decode cc pc = .ok (.iaload, 1))
    (kk : W p l e R s m args below meth c H locs cells slots Q (F0 m (pc + 1) ls (.int (Lx.2 i.toNatClampNeg) :: rest))) : W p l e R s m args below meth c H locs cells slots Q (F0 m pc ls (.int i :: .ref (g.2.2 1002) :: rest)) :=
  va_ti X.1 X.2.1 hZ.2.1 hL.2.2.1 hin rfl hdg kk
theorem x_scl (X : AmC p s m args meth c cc nL own g) (hZ : ZX Lx A g s s.heap) (hL : LW g A ws s.heap H locs) (hdg : decode cc pc = .ok (.arraylength, 1))
    (kk : W p l e R s m args below meth c H locs cells slots Q (F0 m (pc + 1) ls (.int (nI Lx.1) :: rest))) : W p l e R s m args below meth c H locs cells slots Q (F0 m pc ls (.ref (g.2.2 1002) :: rest)) :=
  va_tlen X.1 X.2.1 hZ.2.1 hL.2.2.1 rfl hdg kk
theorem x_nint (X : AmC p s m args meth c cc nL own g) (hL : LW g A ws s.heap H locs) {n : Int32} {N : Nat} (hn : ¬ n < 0) (hN : n.toNatClampNeg = N) (hb2 : N ≤ 2000) (hcells : cells + 1 ≤ R.cells) (hslots : slots + N ≤ R.slots) (hdg : decode cc pc = .ok (.newarray .int, 2))
    (kk : ∀ (q : Nat) (H1 : Heap), LW g A ((q, ia g N (fun _ => 0)) :: ws) s.heap H1 locs → W p l e R s m args below meth c H1 locs (cells + 1) (slots + N) Q (F0 m (pc + 2) ls (.ref q :: rest))) : W p l e R s m args below meth c H locs cells slots Q (F0 m pc ls (.int n :: rest)) :=
  x_newI X hL hn hN hb2 hcells hslots hdg (fun q H1 h => kk q H1 h.front)
theorem x_icopy (X : AmC p s m args meth c cc nL own g) (hL : LW g A ws s.heap H locs) {j k a b n0 n1 idx : Nat} {f h : Nat → Int32} (ha : ws[j]? = some (a, ia g n0 f)) (hb0 : ws[k]? = some (b, ia g n1 h)) (hlk : Cond.methodLink own idx arraycopyName ∈ TT) (hnat : Cond.native arraycopyName ∈ TT) (hst : Cond.static arraycopyName ∈ TT) (hini : Cond.initialized "java/lang/System" ∈ TT) {sp dp n : Int32} (h1 : ¬ sp < 0) (h2 : ¬ dp < 0) (h3 : ¬ n < 0) (h4 : sp.toNatClampNeg + n.toNatClampNeg ≤ n0) (h5 : dp.toNatClampNeg + n.toNatClampNeg ≤ n1)
    (hsz : ls.size = nL) (hframes : 1 ≤ R.frames) (hlocals : (rest.map fun v => v.category).sum + (nativeFrameWords "java/lang/System" "arraycopy" 5 + 11) ≤ R.locals) (hdg : decode cc pc = .ok (.invokestatic idx, 3)) {ws2 : va_W} (hws : ws.set k (b, ia g n1 (va_cpy f h sp.toNatClampNeg dp.toNatClampNeg n.toNatClampNeg)) = ws2)
    (kk : ∀ (H : Heap) (locs : List Loc), LW g A ws2 s.heap H locs → W p l e R s m args below meth c H locs cells slots Q (F0 m (pc + 3) ls rest)) : W p l e R s m args below meth c H locs cells slots Q (F0 m pc ls (.int n :: .int dp :: .ref b :: .int sp :: .ref a :: rest)) := by
  subst hws
  obtain ⟨hx, hb, hml, hown, ht, hK, hN, -⟩ := X
  exact va_copyi hx hb (hml.trans hsz.symm) hown (ht _ hlk) (ht _ hnat) (ht _ hst) (ht _ hini) hK hL.1 hL.2.1 hL.2.2.1 j k 0 0 ha hb0 rfl rfl rfl h1 h2 h3 h4 h5 (fun _ _ => rfl) hframes hlocals hdg (fun H1 locs1 a1 a2 a3 => kk H1 locs1 ⟨a1, a2, a3, hL.2.2.2⟩)
/-- a row of rows: W1 ends at the rows -/
theorem x_rald (X : AmC p s m args meth c cc nL own g) {n : Nat} {rq : Nat → Nat} {ff : Nat → Nat → Int32} (hL : LW g A (W1 ++ (rowsL g n rq ff ++ W2)) s.heap H locs) {j : Nat} (hj : j < n) {i x : Int32} (h : rdS (ff j) n i = some x) (hdg : decode cc pc = .ok (.iaload, 1))
    (kk : W p l e R s m args below meth c H locs cells slots Q (F0 m (pc + 1) ls (.int x :: rest))) : W p l e R s m args below meth c H locs cells slots Q (F0 m pc ls (.int i :: .ref (rq j) :: rest)) := by
  refine x_iald (k := W1.length + j) (N := n) (f := ff j) X hL ?_ h hdg kk
  rw [List.getElem?_append_right (by omega), show W1.length + j - W1.length = j by omega, List.getElem?_append_left (by rw [rowsL_len]; exact hj)]
  exact rowsL_at g rq ff hj
theorem x_rast (X : AmC p s m args meth c cc nL own g) {n : Nat} {rq : Nat → Nat} {ff : Nat → Nat → Int32} (hL : LW g A (W1 ++ (rowsL g n rq ff ++ W2)) s.heap H locs) {j : Nat} (hj : j < n) {i x : Int32} {f2 : Nat → Int32} (h : wrA (ff j) n i x = some f2) (hdg : decode cc pc = .ok (.iastore, 1))
    (kk : ∀ (H : Heap) (locs : List Loc), LW g A (W1 ++ (rowsL g n rq (updR ff j f2) ++ W2)) s.heap H locs → W p l e R s m args below meth c H locs cells slots Q (F0 m (pc + 1) ls rest)) : W p l e R s m args below meth c H locs cells slots Q (F0 m pc ls (.int x :: .int i :: .ref (rq j) :: rest)) := by
  refine x_iast (k := W1.length + j) (N := n) (f := ff j) X hL ?_ h hdg ?_ kk
  · rw [List.getElem?_append_right (by omega), show W1.length + j - W1.length = j by omega, List.getElem?_append_left (by rw [rowsL_len]; exact hj)]
    exact rowsL_at g rq ff hj
  · rw [List.set_append_right _ _ (by omega), show W1.length + j - W1.length = j by omega, List.set_append_left _ _ (by rw [rowsL_len]; exact hj), rowsL_set g rq ff f2 hj]
end LR2
theorem rdQ_lt {N : Nat} {i : Int32} {j : Nat} (h : rdS (fun q : Nat => q) N i = some j) : j < N := by
  obtain ⟨h1, h2⟩ := rd_in (a := j) h
  cases h2
  exact Nat.not_le.mp fun q => h1 (Or.inr q)
def f_L_has (a b : Int32) : Int32 := if ¬ (jshr a b &&& 1) = 1 then 0 else 1
def f_L_kindOf (w : Wd) (k0 : Nat) (v_c : Int32) : Option Int32 := Option.bind (f_X9_isConstraint w k0 v_c) (fun b => if b = true then Option.bind (rdD zC w k0 1 6) (fun x => rdI zC w (zrf zC (zrf zC x 6) 0) v_c) else none)
def f_L_operand (w : Wd) (k0 : Nat) (v_c v_p : Int32) : Option Int32 := Option.bind (f_X9_isConstraint w k0 v_c) (fun b => if b = true then (if v_p < 0 then none else if 3 ≤ v_p then none else Option.bind (rdD zC w k0 1 6) (fun x => f_X0_operandAt w (zrf zC x 6) v_c v_p)) else none)
