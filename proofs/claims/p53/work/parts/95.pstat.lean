/-! A statement is accepted; the next token in the program's relation. -/
section PS
variable {T : Nat → Nat} {n s e k a q ty cnt v o i j : Nat} {N : Nat → Nat} {W : Nat → Nat → Wrd} {P : PK} {K : CK} {c0 m0 c c' d m m' r w : Wd} {st kk : Nat} {y x : Int32}
theorem FpC.fn (hq : PC q) (h : FpC q c0 c) (f : FnC c c') : FpC q c0 c' := h.fi (ty := 0) hq (by omega) (FnC.fi hq f)
theorem FpM.fn (h : FpM m0 m) (f : FnM m m') : FpM m0 m' := h.fi (ty := 0) (by omega) f.fi
theorem JB.next (hq : PC q) (h : JB q T n s e k N W P K c0 m0 c m) : ∃ c' m' s' e' k', f_X5_nextToken c 1 = some c' ∧ f_X10_nextToken m 0 = some m' ∧ e ≤ s' ∧ JB q T n s' e' k' N W P K c0 m0 c' m' := by
  have hq4 : 4 ≤ q := by rcases hq with rfl | rfl <;> omega
  obtain ⟨f1, f2, hL, hE, hT, hN, hF, hK, r⟩ := h
  obtain ⟨c', m', s', e', k', n1, n2, n3, n4, n5, n6⟩ := both_next hL.1 hL.2.1 hL.2.2.1.1 hL.2.2.2.1.1 hL.2.2.2.2.2.1
  refine ⟨c', m', s', e', k', n1, n2, n4, f1.fn hq n5, f2.fn n6, n3, ⟨by rw [n5.2.1 7 (by omega) (by omega) (by omega)]; exact hE.1, by rw [n6.2.1 8 (by omega) (by omega) (by omega)]; exact hE.2⟩, fun t ht => (hT t ht).keepN hq ht n5 n6, hN, ?_, ?_, r⟩
  · unfold FnR at *
    rw [n5.1 q (by omega), n5.1 _ (by omega), n5.1 _ (by omega), n6.1 8 (by omega), n6.1 9 (by omega)]; exact hF
  · unfold LsR RLc at *
    rw [n5.1 _ (by omega), n5.1 _ (by omega), n5.1 _ (by omega), n5.1 _ (by omega), n5.1 _ (by omega), n6.1 11 (by omega)]; exact hK
theorem opV_th : ∀ kk, kk < 5 → ∀ v, opV (t2 kk) v = thI kk v := by
  intro kk hk v
  have h : ∀ k, k < 5 → (t2 k = 3 ↔ k ≤ 1) := by decide
  unfold opV thI
  by_cases z : t2 kk = 3
  · rw [if_pos z, if_pos ((h kk hk).mp z)]
  · rw [if_neg z, if_neg (fun y => z ((h kk hk).mpr y))]
theorem rd3 (hj : j < 3) : rdI zC w (zrf zC 1 8) (nI j) = some (w.1 3 j) := rdI_C (show j < 3 from hj)
theorem row_of (hk : kk < 5) (h0 : v < N 0) {v1 v2 : Nat} (h1 : v1 < N (t1 kk)) (h2 : t2 kk < 3 → v2 < N (t2 kk)) (hN : nv P = N 0 ∧ no P = N 1 ∧ nf P = N 2) : RowOK P kk v v1 v2 := by
  obtain ⟨n0, n1, n2⟩ := hN
  have hh : kk = 0 ∨ kk = 1 ∨ kk = 2 ∨ kk = 3 ∨ kk = 4 := by omega
  rcases hh with rfl | rfl | rfl | rfl | rfl
  · have h1 : v1 < N 1 := h1
    exact ⟨by omega, by omega, fun _ => by omega, fun z => by omega, fun z => by omega, fun z => by omega, fun z => by omega⟩
  · have h1 : v1 < N 0 := h1
    exact ⟨by omega, by omega, fun z => by omega, fun _ => by omega, fun z => by omega, fun z => by omega, fun z => by omega⟩
  · have h1 : v1 < N 0 := h1
    have h2 : v2 < N 2 := h2 (by decide)
    exact ⟨by omega, by omega, fun z => by omega, fun z => by omega, fun _ => by omega, fun z => by omega, fun z => by omega⟩
  · have h1 : v1 < N 2 := h1
    have h2 : v2 < N 0 := h2 (by decide)
    exact ⟨by omega, by omega, fun z => by omega, fun z => by omega, fun z => by omega, fun _ => by omega, fun z => by omega⟩
  · have h1 : v1 < N 0 := h1
    have h2 : v2 < N 0 := h2 (by decide)
    exact ⟨by omega, by omega, fun z => by omega, fun z => by omega, fun z => by omega, fun z => by omega, fun _ => by omega⟩
theorem acc_con (hq : PC q) (hk : kk < 5) {v0 v1 v2 : Nat} (h : JB q T n s e k N W P K c0 m0 c m) (hn : nc K < 30) (h0 : v0 < N 0) (h1 : v1 < N (t1 kk)) (h2 : t2 kk < 3 → v2 < N (t2 kk)) (d0 : c.1 3 0 = nI v0) (d1 : c.1 3 1 = nI v1) (d2 : c.1 3 2 = opV (t2 kk) v2) (r0 : m.1 11 (2 + 4 * nc K) = nI kk) (r1 : m.1 11 (3 + 4 * nc K) = nI v0) (r2 : m.1 11 (4 + 4 * nc K) = nI v1) (r3 : m.1 11 (5 + 4 * nc K) = opV (t2 kk) v2) :
    ∃ c', f_X5_accept c 1 q (nI kk) = some c' ∧ JB q T n s e k N W P (addK K kk v0 v1 v2) c0 m0 c' (wsI m 11 0 (nI (nc K + 1))) := by
  have hq4 : 4 ≤ q := by rcases hq with rfl | rfl <;> omega
  obtain ⟨f1, f2, hL, hE, hT, hN, hF, ⟨k1, k2, k3⟩, hP, hC, hen⟩ := h
  obtain ⟨c', a1, a2, a3, a4⟩ := c_add (k := kk) (x := v0) (y' := v1) (z := v2) hq.LC k1 hn
  unfold f_X5_accept
  rw [if_neg (show ¬ nI kk = (5 : Int32) from k_no (b := 5) (by omega) (by omega) (by omega))]
  show ∃ c', Option.bind (Option.bind (rdI zC c (zrf zC 1 8) (nI 0)) fun x3 => Option.bind (rdI zC c (zrf zC 1 8) (nI 1)) fun x4 => Option.bind (rdI zC c (zrf zC 1 8) (nI 2)) fun x5 => Option.bind (f_X0_add c (zrf zC q 6) (nI kk) x3 x4 x5) _) _ = _ ∧ _
  rw [rd3 (by omega), rd3 (by omega), rd3 (by omega), Option.bind_some, Option.bind_some, Option.bind_some, d0, d1, d2, opV_th kk hk, zp6 hq, a1, Option.bind_some, Option.bind_some]
  refine ⟨c', rfl, ?_, f2.o11 (O11.refl m).put, ?_, ⟨?_, ?_⟩, fun t ht => ?_, hN, ?_, ⟨a2, ?_, fun i hi => ?_⟩, hP, addK_ok hC hn (row_of hk h0 h1 h2 hN), fun i => ?_⟩
  · exact ⟨fun p p1 p2 p3 => by rw [a3 p (by omega)]; exact f1.1 p p1 p2 p3, fun j hj => by rw [a3 1 (by omega)]; exact f1.2.1 j hj, by rw [a4]; exact f1.2.2.1, by rw [a4]; exact f1.2.2.2.1, fun t ht => by rw [a3 _ (by omega)]; exact f1.2.2.2.2 t ht⟩
  · have hL := hL.o11 (O11.refl m |>.put (j := 0) (x := nI (nc K + 1)))
    obtain ⟨l1, l2, l3, l4, l5⟩ := hL
    refine ⟨⟨l1.1, by rw [a3 1 (by omega)]; exact l1.2.1, fun j hj => by rw [a3 2 (by omega)]; exact l1.2.2 j hj⟩, l2, ?_, l4, l5⟩
    unfold LxC at *
    rw [a3 1 (by omega), a4]; exact l3
  · rw [a3 1 (by omega)]; exact hE.1
  · rw [wsI_o _ _ _ (by omega)]; exact hE.2
  · obtain ⟨b1, b2, b3, b4, b5, b6⟩ := hT t ht
    exact ⟨b1, by rw [a3 _ (by omega)]; exact b2, by rw [a3 _ (by omega)]; exact b3, by rw [wsI_o _ _ _ (by omega)]; exact b4, fun v hv => by rw [a4]; exact b5 v hv, b6⟩
  · unfold FnR at *
    rw [a3 q (by omega), a3 (q + 7) (by omega), a3 (q + 8) (by omega), wsI_o _ _ _ (by omega), wsI_o _ _ _ (by omega)]; exact hF
  · rw [wsI_s, upd_s]; rfl
  · have hi : i < nc K + 1 := hi
    rw [wsI_s, upd_o (by omega), upd_o (by omega), upd_o (by omega), upd_o (by omega)]
    by_cases z : i = nc K
    · rw [z, addK_new.1, addK_new.2.1, addK_new.2.2.1, addK_new.2.2.2]
      exact ⟨r0, r1, r2, by rw [r3, opV_th kk hk]⟩
    · obtain ⟨o1, o2, o3, o4⟩ := addK_old (K := K) (k := kk) (x := v0) (y' := v1) (z := v2) (i := i) (by omega)
      rw [o1, o2, o3, o4]
      exact k3 i (by omega)
  · show bt (en K ||| jshl 1 (nI (nc K))) i = decide (i < nc K + 1)
    rw [b_or, hen i]
    by_cases hi : i < 32
    · rw [bt_bit (by omega) hi]
      by_cases z : i = nc K
      · rw [decide_eq_true z, Bool.or_true, decide_eq_true (by omega)]
      · rw [decide_eq_false z, Bool.or_false]
        exact decide_eq_decide.mpr (by omega)
    · rw [b_big (by omega), Bool.or_false]
      exact decide_eq_decide.mpr (by omega)
/-- a function is declared -/
def fnP (P : PK) (v0 v1 v2 : Nat) : PK := (nv P, no P, nf P, fs P ||| jshl 1 (nI v0), fun o => if o = v0 then v1 else pr P o, fun o => if o = v0 then v2 else rs P o)
theorem acc_fun (hq : PC q) {v0 v1 v2 : Nat} (h : JB q T n s e k N W P K c0 m0 c m) (h0 : v0 < N 1) (h1 : v1 < N 0) (h2 : v2 < N 0) (d0 : c.1 3 0 = nI v0) (d1 : c.1 3 1 = nI v1) (d2 : c.1 3 2 = nI v2) :
    ∃ c', f_X5_accept c 1 q (nI 5) = some c' ∧ JB q T n s e k N W (fnP P v0 v1 v2) K c0 m0 c' (wsI (wsI m 8 (10 + v0) (nI v1)) 9 (10 + v0) (nI v2)) := by
  have hq4 : 4 ≤ q := by rcases hq with rfl | rfl <;> omega
  obtain ⟨f1, f2, hL, hE, hT, hN, ⟨hF1, hF2, hF3⟩, hK, hP, hC, hen⟩ := h
  have h10 := hP.2.1
  have hno := hN.2.1
  unfold f_X5_accept
  rw [if_pos (show nI 5 = (5 : Int32) from rfl)]
  show ∃ c', Option.bind (Option.bind (rdI zC c (zrf zC 1 8) (nI 0)) fun x3 => Option.bind (rdI zC c (zrf zC 1 8) (nI 1)) fun x4 => Option.bind (rdI zC c (zrf zC 1 8) (nI 2)) fun x5 => Option.bind (f_X6_declareFunction c q x3 x4 x5) _) _ = _ ∧ _
  rw [rd3 (by omega), rd3 (by omega), rd3 (by omega), Option.bind_some, Option.bind_some, Option.bind_some, d0, d1, d2]
  unfold f_X6_declareFunction
  rw [Option.bind_some, zp3 hq, zp4 hq, wrI_C (by rw [zn7 hq]; omega), Option.bind_some, wrI_C (by rw [zn8 hq]; omega), Option.bind_some, Option.bind_some, Option.bind_some, hF1]
  generalize hc' : wsI (wsI (wsI c q 5 (fs P ||| jshl 1 (nI v0))) (q + 7) v0 (nI v1)) (q + 8) v0 (nI v2) = c'
  have a1 : ∀ p, p ≠ q → p ≠ q + 7 → p ≠ q + 8 → c'.1 p = c.1 p := fun p p1 p2 p3 => by rw [← hc', wsI_o _ _ _ p3, wsI_o _ _ _ p2, wsI_o _ _ _ p1]
  have a2 : c'.2 = c.2 := by rw [← hc']; rfl
  have a3 : c'.1 q 5 = fs P ||| jshl 1 (nI v0) := by rw [← hc', wsI_o _ _ _ (by omega), wsI_o _ _ _ (by omega), wsI_s, upd_s]
  have a7 : c'.1 (q + 7) = upd (c.1 (q + 7)) v0 (nI v1) := by rw [← hc', wsI_o _ _ _ (by omega), wsI_s, wsI_o _ _ _ (by omega)]
  have a8 : c'.1 (q + 8) = upd (c.1 (q + 8)) v0 (nI v2) := by rw [← hc', wsI_s, wsI_o _ _ _ (by omega), wsI_o _ _ _ (by omega)]
  generalize hm' : wsI (wsI m 8 (10 + v0) (nI v1)) 9 (10 + v0) (nI v2) = m'
  have b1 : ∀ p, p ≠ 8 → p ≠ 9 → m'.1 p = m.1 p := fun p p1 p2 => by rw [← hm', wsI_o _ _ _ p2, wsI_o _ _ _ p1]
  have b2 : m'.2 = m.2 := by rw [← hm']; rfl
  have b8 : m'.1 8 = upd (m.1 8) (10 + v0) (nI v1) := by rw [← hm', wsI_o _ _ _ (by omega), wsI_s]
  have b9 : m'.1 9 = upd (m.1 9) (10 + v0) (nI v2) := by rw [← hm', wsI_s, wsI_o _ _ _ (by omega)]
  have bits : ∀ o, bt (fs P ||| jshl 1 (nI v0)) o = (bt (fs P) o || decide (o = v0)) := fun o => by
    rw [b_or]
    by_cases z : o < 32
    · rw [bt_bit (by omega) z]
    · rw [b_big (x := jshl 1 (nI v0)) (by omega), decide_eq_false (show ¬ o = v0 by omega)]
  refine ⟨c', rfl, ?_, ?_, ?_, ⟨?_, ?_⟩, fun t ht => ?_, hN, ⟨a3, fun o ho => ?_, fun o ho => ?_⟩, ?_, ⟨hP.1, hP.2.1, hP.2.2.1, fun o ho => ?_⟩, hC.up (Nat.le_refl _) (Nat.le_refl _) (Nat.le_refl _), hen⟩
  · exact ⟨fun p p1 p2 p3 => by rw [a1 p (by omega) (by omega) (by omega)]; exact f1.1 p p1 p2 p3, fun j hj => by rw [a1 1 (by omega) (by omega) (by omega)]; exact f1.2.1 j hj, by rw [a2]; exact f1.2.2.1, by rw [a2]; exact f1.2.2.2.1, fun t ht => by rw [a1 _ (by omega) (by omega) (by omega)]; exact f1.2.2.2.2 t ht⟩
  · obtain ⟨q1, q2, q3, q4, q5, q6, q7⟩ := f2
    refine ⟨fun p p1 p2 p3 p4 p5 => by rw [b1 p p3 p4]; exact q1 p p1 p2 p3 p4 p5, fun j hj => by rw [b1 0 (by omega) (by omega)]; exact q2 j hj, fun p p1 p2 => by rw [b1 p (by omega) (by omega)]; exact q3 p p1 p2, fun j hj => by rw [b8, b9, upd_o (by omega), upd_o (by omega)]; exact q4 j hj, by rw [b2]; exact q5, by rw [b2]; exact q6, by rw [b2]; exact q7⟩
  · obtain ⟨l1, l2, l3, l4, l5⟩ := hL
    refine ⟨⟨l1.1, by rw [a1 1 (by omega) (by omega) (by omega)]; exact l1.2.1, fun j hj => by rw [a1 2 (by omega) (by omega) (by omega)]; exact l1.2.2 j hj⟩, ⟨l2.1, by rw [b1 0 (by omega) (by omega)]; exact l2.2.1, fun j hj => by rw [b1 1 (by omega) (by omega)]; exact l2.2.2 j hj⟩, ?_, ?_, l5⟩
    · unfold LxC at *
      rw [a1 1 (by omega) (by omega) (by omega), a2]; exact l3
    · unfold LxM at *
      rw [b1 0 (by omega) (by omega), b2]; exact l4
  · rw [a1 1 (by omega) (by omega) (by omega)]; exact hE.1
  · rw [b1 0 (by omega) (by omega)]; exact hE.2
  · obtain ⟨t1, t2, t3, t4, t5, t6⟩ := hT t ht
    exact ⟨t1, by rw [a1 _ (by omega) (by omega) (by omega)]; exact t2, by rw [a1 _ (by omega) (by omega) (by omega)]; exact t3, by rw [b1 _ (by omega) (by omega)]; exact t4, fun v hv => by rw [a2, b2]; exact t5 v hv, t6⟩
  · have ho : bt (fs P ||| jshl 1 (nI v0)) o = true := ho
    show c'.1 (q + 7) o = nI (if o = v0 then v1 else pr P o) ∧ c'.1 (q + 8) o = nI (if o = v0 then v2 else rs P o)
    rw [a7, a8]
    by_cases z : o = v0
    · rw [z, upd_s, upd_s, if_pos rfl, if_pos rfl]; exact ⟨rfl, rfl⟩
    · rw [upd_o z, upd_o z, if_neg z, if_neg z]
      rw [bits, decide_eq_false z, Bool.or_false] at ho
      exact hF2 o ho
  · show (bt (fs P ||| jshl 1 (nI v0)) o = true → m'.1 8 (10 + o) = nI (if o = v0 then v1 else pr P o) ∧ m'.1 9 (10 + o) = nI (if o = v0 then v2 else rs P o)) ∧ (bt (fs P ||| jshl 1 (nI v0)) o = false → m'.1 8 (10 + o) = -2 ∧ m'.1 9 (10 + o) = -2)
    rw [b8, b9, bits]
    by_cases z : o = v0
    · rw [z, upd_s, upd_s, if_pos rfl, if_pos rfl, decide_eq_true rfl, Bool.or_true]
      exact ⟨fun _ => ⟨rfl, rfl⟩, fun y => by cases y⟩
    · rw [upd_o (show 10 + o ≠ 10 + v0 by omega), upd_o (show 10 + o ≠ 10 + v0 by omega), if_neg z, if_neg z, decide_eq_false z, Bool.or_false]
      exact hF3 o ho
  · unfold LsR RLc at *
    rw [a1 _ (by omega) (by omega) (by omega), a1 _ (by omega) (by omega) (by omega), a1 _ (by omega) (by omega) (by omega), a1 _ (by omega) (by omega) (by omega), a1 _ (by omega) (by omega) (by omega), b1 11 (by omega) (by omega)]; exact hK
  · have ho : bt (fs P ||| jshl 1 (nI v0)) o = true := ho
    show o < no P ∧ (if o = v0 then v1 else pr P o) < nv P ∧ (if o = v0 then v2 else rs P o) < nv P
    by_cases z : o = v0
    · rw [if_pos z, if_pos z]
      have := hN.1
      omega
    · rw [if_neg z, if_neg z]
      rw [bits, decide_eq_false z, Bool.or_false] at ho
      exact hP.2.2.2 o ho
end PS
