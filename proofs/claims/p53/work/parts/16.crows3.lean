/-! The two big constructors. -/
def adG (g : Gh) (l : List Nat) : Nat → Nat := fun k => if k < 1000 then l.getD k 0 else g.2.2 k
theorem adG_st {g : Gh} {l : List Nat} {k : Nat} (h : 1000 ≤ k) : adG g l k = g.2.2 k := if_neg (by omega)
/-- the worlds of a fresh solver and of a fresh model -/
def wC0 : Wd := (fun k => match k with
  | 0 => fun j => match j with
    | 9 => 1
    | 10 => 1
    | _ => 0
  | 5 => fun j => match j with
    | 1 => 16
    | _ => 0
  | 7 => fun j => match j with
    | 1 => 10
    | _ => 0
  | 9 => fun j => match j with
    | 1 => 4
    | _ => 0
  | 19 => fun j => match j with
    | 1 => 16
    | _ => 0
  | 21 => fun j => match j with
    | 1 => 10
    | _ => 0
  | 23 => fun j => match j with
    | 1 => 4
    | _ => 0
  | _ => fun _ => 0, fun _ _ => 0, fun _ j => match j with
    | 1 => 4
    | 2 => 18
    | _ => 0)
def wM0 : Wd := (fun _ _ => 0, fun _ _ => 0, fun _ _ => 0)
theorem va_at2 {D : va_G} {cl : List vw_C} {a : Nat} {H : Heap} {cA : ClassId} {n : Nat} {f1 f2 : Nat → Option Nat} (h : ∀ j, j < n → f1 j = f2 j) (hh : va_at D cl (a, .inl (cA, n, .inr (.inr (.inr (.inr f1))))) H) : va_at D cl (a, .inl (cA, n, .inr (.inr (.inr (.inr f2))))) H := by
  have e : (fun j : Fin n => va_rf (f1 j.val)) = fun j : Fin n => va_rf (f2 j.val) := funext fun j => by rw [h j.val j.isLt]
  have e2 : vp_cell cA (n, .inr (.inr (.inr (.inr f1)))) = vp_cell cA (n, .inr (.inr (.inr (.inr f2)))) := by
    show arrV cA n (fun j => va_rf (f1 j)) = arrV cA n (fun j => va_rf (f2 j))
    unfold arrV
    rw [e]
  show H[a]? = some (vp_cell cA (n, .inr (.inr (.inr (.inr f2)))))
  rw [← e2]
  exact hh
theorem vp_in_mk2 {i : Int32} {n : Nat} (h1 : ¬ i < 0) (h2 : i.toNatClampNeg < n) : vp_in i n := fun z => by
  rcases z with z | z
  · exact h1 z
  · omega
theorem cons_eq {α : Type} {x y : α} {l m : List α} (h1 : x = y) (h2 : l = m) : x :: l = y :: m := by rw [h1, h2]
section CR4
variable {p : Program} {l : Launch} {e : Env} {R : Room} {s : State} {m : MethodId} {args : Array Value} {below : List Frame} {meth : Method} {c : Code} {H : Heap} {locs : List Loc} {cells slots : Nat} {Q : State → Prop}
variable {cc : ByteArray} {nL : Nat} {own : String} {g : Gh} {pc : Nat} {ls : Array Slot} {rest : List Value} {A : Nat → Prop} {ws : va_W}
theorem x_newq (X : AmC p s m args meth c cc nL own g) (hL : LW g A ws s.heap H locs) {n : Int32} {N idx : Nat} (hn : ¬ n < 0) (hN : n.toNatClampNeg = N) (hb2 : N ≤ 2000) (hcl : Cond.classLink own idx RX0 ∈ TT) (hE : va_AO RX0 s) (hcells : cells + 1 ≤ R.cells) (hslots : slots + N ≤ R.slots) (hdg : decode cc pc = .ok (.anewarray idx, 3))
    (kk : ∀ (q : Nat) (H1 : Heap), LW g A (ws ++ [(q, .inl (g.2.1 4, N, .inr (.inr (.inr (.inr (fun _ => none))))))]) s.heap H1 locs → W p l e R s m args below meth c H1 locs (cells + 1) (slots + N) Q (F0 m (pc + 3) ls (.ref q :: rest))) : W p l e R s m args below meth c H locs cells slots Q (F0 m pc ls (.int n :: rest)) := by
  obtain ⟨hx, hb, hml, hown, ht, hK, hN2, hlk⟩ := X
  obtain ⟨hP, hD, hS, hA⟩ := hL
  refine va_newq hx hb hown (ht _ hcl) hE hK hP hD hS hA hn hN (by omega) hcells hslots hdg (fun q cA H1 k1 k2 k3 k4 => ?_)
  obtain ⟨kA, comp, -, -, -, h1⟩ := (hK.2 4 (g.2.1 4, .object RX0) rfl).2
  obtain ⟨kA2, comp2, -, -, -, h2⟩ := (k1.2 (ztys g).length (cA, .object RX0) (by rw [List.getElem?_append_right (Nat.le_refl _), Nat.sub_self]; rfl)).2
  have e : cA = g.2.1 4 := Option.some.inj (h2.symm.trans h1)
  subst e
  exact kk q H1 ⟨k2, k3, k4, hA⟩
theorem x_astq (X : AmC p s m args meth c cc nL own g) (hL : LW g A ws s.heap H locs) (q0 t0 qk ci : Nat) {a : Nat} {cA : ClassId} {r : vw_C} {n v : Nat} {vs : List Value} {f : Nat → Option Nat} (ha : ws[q0]? = some (a, .inl (cA, n, .inr (.inr (.inr (.inr f)))))) (ht : (ztys g)[t0]? = some (cA, .object r.1)) (hv : ws[qk]? = some (v, .inr (ci, vs))) (hc : vwCl[ci]? = some r) {i : Int32} (hin : vp_in i n) (hdg : decode cc pc = .ok (.aastore, 1)) {ws2 : va_W} (hws : ws.set q0 (a, .inl (cA, n, .inr (.inr (.inr (.inr (va_up f i.toNatClampNeg (some v))))))) = ws2)
    (kk : ∀ (H1 : Heap) (locs1 : List Loc), LW g A ws2 s.heap H1 locs1 → W p l e R s m args below meth c H1 locs1 cells slots Q (F0 m (pc + 1) ls rest)) : W p l e R s m args below meth c H locs cells slots Q (F0 m pc ls (.ref v :: .int i :: .ref a :: rest)) := by
  obtain ⟨hx, hb, hml, hown, ht2, hK, hN2, hlk⟩ := X
  obtain ⟨hP, hD, hS, hA⟩ := hL
  subst hws
  exact va_astq hx hb hK hP hD hS q0 t0 qk ci ha ht hv hc hin hdg (fun H1 locs1 a1 a2 a3 => kk H1 locs1 ⟨a1, a2, a3, hA⟩)
end CR4
