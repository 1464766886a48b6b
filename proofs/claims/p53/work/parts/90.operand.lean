/-! An operand: class readOperand, reference identifier. -/
section OP2
variable {T : Nat → Nat} {n s e k a q ty cnt v o i : Nat} {W : Nat → Wrd} {x : Wrd} {c c' d m m' r w : Wd} {st : Nat}
theorem FiC.trans (h : FiC q ty c d) (g : FiC q ty d c') : FiC q ty c c' := ⟨fun p p1 p2 => (g.1 p p1 p2).trans (h.1 p p1 p2), fun j j1 => (g.2.1 j j1).trans (h.2.1 j j1), fun j j1 j2 j3 j4 => (g.2.2.1 j j1 j2 j3 j4).trans (h.2.2.1 j j1 j2 j3 j4), fun p p1 p2 => (g.2.2.2.1 p p1 p2).trans (h.2.2.2.1 p p1 p2), g.2.2.2.2.trans h.2.2.2.2⟩
theorem FiM.trans (h : FiM ty m r) (g : FiM ty r m') : FiM ty m m' := ⟨fun p p1 p2 => (g.1 p p1 p2).trans (h.1 p p1 p2), g.2.1.trans h.2.1, fun j j1 => (g.2.2.1 j j1).trans (h.2.2.1 j j1), fun p p1 p2 => (g.2.2.2.1 p p1 p2).trans (h.2.2.2.1 p p1 p2), fun j j1 => (g.2.2.2.2.1 j j1).trans (h.2.2.2.2.1 j j1), g.2.2.2.2.2.trans h.2.2.2.2.2⟩
theorem FnC.fi (hq : PC q) (h : FnC c c') : FiC q ty c c' := by
  have hq4 : 4 ≤ q := by rcases hq with rfl | rfl <;> omega
  exact ⟨fun p p1 _ => h.1 p p1, fun j _ => by rw [h.1 _ (by omega)], fun j j1 j2 j3 _ => h.2.1 j j1 j2 j3, fun p p1 _ => h.2.2.1 p p1, h.2.2.2⟩
theorem FnM.fi (h : FnM m m') : FiM ty m m' := ⟨fun p p1 _ => h.1 p p1, by rw [h.1 _ (by omega)], fun j j1 => h.2.1 j (by omega) (by omega) (by omega), fun p p1 _ => h.2.2.1 p p1, fun j _ => by rw [h.2.2.1 _ (by omega)], h.2.2.2⟩
theorem c_fail {kk : Nat} (h5 : c.1 1 5 = nI s) : f_X5_fail c 1 (nI kk) = some (wsI c 1 7 (nI (8 * s + kk))) := by
  unfold f_X5_fail
  rw [h5, Option.bind_some]
  show some (wsI c 1 7 (nI 8 * nI s + nI kk)) = _
  rw [pk_mul, nI_add]
theorem er_of {kk : Nat} (h5 : c.1 1 5 = nI s) (h4 : m.1 0 4 = nI s) (hs : s ≤ 600) (hk : 1 ≤ kk ∧ kk ≤ 3) : Er (wsI c 1 7 (nI (8 * s + kk))) (wsI (wsI m 0 8 (nI kk)) 0 9 (m.1 0 4)) := ⟨s, kk, by rw [wsI_s, upd_s], by rw [wsI_s, upd_o (by omega), wsI_s, upd_s], by rw [wsI_s, upd_s, h4], hk.1, hk.2, hs⟩
theorem fi_er {y : Int32} (hq : PC q) : FiC q ty c (wsI c 1 7 y) := by
  have hq4 : 4 ≤ q := by rcases hq with rfl | rfl <;> omega
  exact ⟨fun p p1 _ => wsI_o _ _ _ p1, fun j _ => by rw [wsI_o _ _ _ (by omega)], fun j _ _ _ j4 => by rw [wsI_s, upd_o j4], fun _ _ _ => rfl, rfl⟩
theorem fm_er {y z : Int32} : FiM ty m (wsI (wsI m 0 8 y) 0 9 z) := ⟨fun p p1 _ => by rw [wsI_o _ _ _ p1, wsI_o _ _ _ p1], by rw [wsI_o _ _ _ (by omega), wsI_o _ _ _ (by omega)], fun j j1 => by rw [wsI_s, upd_o (by omega), wsI_s, upd_o (by omega)], fun _ _ _ => rfl, fun _ _ => rfl, rfl⟩
theorem m_must1 (h0 : m.1 0 8 = 0) (b : Bool) : f_X10_must m 0 b (1 : Int32) = some (b, if b = true then m else wsI (wsI m 0 8 (nI 1)) 0 9 (m.1 0 4)) := m_must (kk := 1) h0 b (by omega)
theorem m_must2 (h0 : m.1 0 8 = 0) (b : Bool) : f_X10_must m 0 b (2 : Int32) = some (b, if b = true then m else wsI (wsI m 0 8 (nI 2)) 0 9 (m.1 0 4)) := m_must (kk := 2) h0 b (by omega)
theorem m_must3 (h0 : m.1 0 8 = 0) (b : Bool) : f_X10_must m 0 b (3 : Int32) = some (b, if b = true then m else wsI (wsI m 0 8 (nI 3)) 0 9 (m.1 0 4)) := m_must (kk := 3) h0 b (by omega)
theorem c_fail1 (h5 : c.1 1 5 = nI s) : f_X5_fail c 1 (1 : Int32) = some (wsI c 1 7 (nI (8 * s + 1))) := c_fail (kk := 1) h5
theorem c_fail2 (h5 : c.1 1 5 = nI s) : f_X5_fail c 1 (2 : Int32) = some (wsI c 1 7 (nI (8 * s + 2))) := c_fail (kk := 2) h5
theorem c_fail3 (h5 : c.1 1 5 = nI s) : f_X5_fail c 1 (3 : Int32) = some (wsI c 1 7 (nI (8 * s + 3))) := c_fail (kk := 3) h5
theorem wr_many (ht : ty < 3) {y : Int32} : wrI zM w (2 + ty) (1 : Int32) y = some (wsI w (2 + ty) 1 y) := wrI_M (j := 1) (by rw [(zmn ht).2]; omega)
/-- what an operand's reading comes to -/
def OpR (T : Nat → Nat) (n e q ty cnt : Nat) (W : Nat → Wrd) (f : Option (Int32 × Wd)) (g : Option (Int32 × Wd)) (c m : Wd) : Prop := ∃ r c' m', f = some (r, c') ∧ FiC q ty c c' ∧ FiM ty m m' ∧
  ((Er c' m' ∧ g = some (0, m') ∧ m'.1 (2 + ty) = m.1 (2 + ty)) ∨ (∃ v cnt' W' s' e' k', r = nI v ∧ g = some (nI v, m') ∧ v < cnt' ∧ Tab q ty cnt' W' c' m' ∧ ((cnt' = cnt ∧ W' = W) ∨ (cnt' = cnt + 1 ∧ v = cnt)) ∧ LX T n s' e' k' c' m' ∧ e ≤ s' ∧ NoEr c' m'))
theorem Tab.keepN (hq : PC q) (ht : ty < 3) (h : Tab q ty cnt W c m) (g : FnC c c') (f : FnM m m') : Tab q ty cnt W c' m' := by
  have hq4 : 4 ≤ q := by rcases hq with rfl | rfl <;> omega
  obtain ⟨h1, h2, h3, h4, h5, h6⟩ := h
  exact ⟨h1, by rw [g.1 _ (by omega)]; exact h2, by rw [g.1 _ (by omega)]; exact h3, by rw [f.1 _ (by omega)]; exact h4, fun v hv => by rw [g.2.2.1 _ (by omega), f.2.2.1 _ (by omega)]; exact h5 v hv, h6⟩
theorem both_operand (hq : PC q) (ht : ty < 3) (h : LX T n s e k c m) (hE : NoEr c m) (hT : Tab q ty cnt W c m) (hst : st < 6)
    (hdup : st = 5 → ty = 1 → nmq k (wd T s e) = true → (∀ v, v < cnt → cN (W v) = cN (wd T s e) → bt (c.1 q 5) v = false) ∧ bt (c.1 q 5) cnt = false) :
    OpR T n e q ty cnt W (f_X5_readOperand c 1 q (nI st) (nI ty)) (f_X10_identifier m 0 (5 + ty) (2 + ty) (nI (lim ty))) c m := by
  have hq4 : 4 ≤ q := by rcases hq with rfl | rfl <;> omega
  have h16 := lim_le ty
  obtain ⟨hc, hm, lc, lm, se, en, k3, kz, kok, kn⟩ := id h
  have hn := hc.1
  obtain ⟨t1, t2, t3, t4, t5, t6⟩ := id hT
  unfold OpR f_X5_readOperand f_X10_identifier
  rw [if_neg (show ¬ nI ty = (3 : Int32) from k_no (b := 3) (by omega) (by omega) (by omega)), c_nameTok h, m_nameTok h hE.2, Option.bind_some, Option.bind_some, m_must1 hE.2, Option.bind_some]
  cases hnm : nmq k (wd T s e) with
  | false =>
    rw [if_pos (by decide), c_fail1 lc.2.1, Option.bind_some, if_pos (show ¬ ((false, (if false = true then m else wsI (wsI m 0 8 (nI 1)) 0 9 (m.1 0 4))) : Bool × Wd).1 = true from fun z => by cases z)]
    refine ⟨-1, _, _, rfl, fi_er hq, fm_er, Or.inl ⟨er_of lc.2.1 lm.2.1 (by omega) (by omega), rfl, ?_⟩⟩
    exact (wsI_o _ _ _ (by omega)).trans (wsI_o _ _ _ (by omega))
  | true =>
    have hk1 : k = 1 := ((nmq_kw _ _).mp hnm).1
    have hx := kok hk1
    rw [if_neg (by decide), if_neg (show ¬ ¬ ((true, (if true = true then m else wsI (wsI m 0 8 (nI 1)) 0 9 (m.1 0 4))) : Bool × Wd).1 = true from fun z => z rfl), namesOf_ty hq ht, lc.2.2.2 hk1, c_numberOf hq ht t2 t3 t1 (fun v hv => (t5 v hv).2.1)]
    rw [show ((true, (if true = true then m else wsI (wsI m 0 8 (nI 1)) 0 9 (m.1 0 4))) : Bool × Wd) = (true, m) from rfl]
    rw [m_find (x := wd T s e) (lm.2.2.2 hk1) hx ht t4 t1 (fun v hv => ⟨(t5 v hv).1, (t5 v hv).2.2⟩), Option.bind_some, Option.bind_some]
    have rc : rdI zM m (2 + ty) (nI 1) = some (nI cnt) := by exact (rdI_M (j := 1) (by rw [(zmn ht).2]; omega)).trans (by rw [t4])
    by_cases hf : exb (fq W (wd T s e)) cnt = true
    · -- a known name
      obtain ⟨f1, f2, f3⟩ := fstb_ok hf
      rw [if_pos hf, if_pos hf]
      dsimp only
      rw [if_neg (n_m1 (by omega)), if_neg (show ¬ ((nI st = (5 : Int32) ∧ nI ty = (1 : Int32)) ∧ f_X6_isFunction c q (nI (fstb (fq W (wd T s e)) cnt)) = true) from fun z => by
        have e5 : st = 5 := (n_eq (b := 5) (by omega) (by omega)).mp z.1.1
        have e1 : ty = 1 := (n_eq (b := 1) (by omega) (by omega)).mp z.1.2
        have := (hdup e5 e1 hnm).1 _ f1 (of_decide_eq_true f2)
        have z2 := z.2
        unfold f_X6_isFunction at z2
        rw [cont_bt (by omega), this] at z2
        cases z2)]
      obtain ⟨c', m', s', e', k', n1, n2, n3, n4, n5, n6⟩ := both_next hc hm lc.1 lm.1 en
      rw [n1, Option.bind_some, Option.bind_some, Option.bind_some]
      have rc' : rdI zM m (2 + ty) (1 : Int32) = some (nI cnt) := rc
      refine ⟨_, c', m', rfl, FnC.fi hq n5, n6.fi, Or.inr ⟨fstb (fq W (wd T s e)) cnt, cnt, W, s', e', k', rfl, ?_, f1, hT.keepN hq ht n5 n6, Or.inl ⟨rfl, rfl⟩, n3, n4, by rw [n5.2.1 7 (by omega) (by omega) (by omega)]; exact hE.1, by rw [n6.2.1 8 (by omega) (by omega) (by omega)]; exact hE.2⟩⟩
      show Option.bind (Option.bind (rdI zM m (2 + ty) (1 : Int32)) _) _ = _
      rw [rc', Option.bind_some, if_neg (k_no (by omega) (by omega) (by omega)), Option.bind_some]
      show Option.bind (f_X10_nextToken m 0) _ = _
      rw [n2, Option.bind_some]
    · rw [if_neg hf, if_neg hf]
      have rc' : rdI zM m (2 + ty) (1 : Int32) = some (nI cnt) := rc
      have hlim : (nI cnt < nI (lim ty)) ↔ cnt < lim ty := n_lt (by omega) (by omega)
      by_cases hl : cnt < lim ty
      · -- a new name
        rw [if_pos hl]
        generalize hc2 : wsI (wsL c (q + 2 + 2 * ty) cnt (cN (wd T s e))) (q + 1 + 2 * ty) 2 (nI (cnt + 1)) = c2
        have a1 : ∀ p, p ≠ q + 1 + 2 * ty → c2.1 p = c.1 p := fun p hp => by rw [← hc2, wsI_o _ _ _ hp]; rfl
        have a2 : ∀ j, j ≠ 2 → c2.1 (q + 1 + 2 * ty) j = c.1 (q + 1 + 2 * ty) j := fun j hj => by rw [← hc2, wsI_s, upd_o hj]; rfl
        have a3 : c2.1 (q + 1 + 2 * ty) 2 = nI (cnt + 1) := by rw [← hc2, wsI_s, upd_s]
        have a4 : ∀ p, p ≠ q + 2 + 2 * ty → c2.2.1 p = c.2.1 p := fun p hp => by rw [← hc2]; exact wsL_o _ _ _ hp
        have a5 : ∀ v, c2.2.1 (q + 2 + 2 * ty) v = if v = cnt then cN (wd T s e) else c.2.1 (q + 2 + 2 * ty) v := fun v => by
          rw [← hc2]
          show (wsL c (q + 2 + 2 * ty) cnt (cN (wd T s e))).2.1 (q + 2 + 2 * ty) v = _
          rw [wsL_s]
          by_cases z : v = cnt
          · rw [z, updL_s, if_pos rfl]
          · rw [updL_o z, if_neg z]
        have a6 : c2.2.2 = c.2.2 := by rw [← hc2]; rfl
        generalize hm2 : wsI (wsL m (5 + ty) (lim ty + cnt) (mN (wd T s e))) (2 + ty) 1 (nI (cnt + 1)) = m2
        have b1 : ∀ p, p ≠ 2 + ty → m2.1 p = m.1 p := fun p hp => by rw [← hm2, wsI_o _ _ _ hp]; rfl
        have b2 : m2.1 (2 + ty) 0 = m.1 (2 + ty) 0 := by rw [← hm2, wsI_s, upd_o (by omega)]; rfl
        have b3 : m2.1 (2 + ty) 1 = nI (cnt + 1) := by rw [← hm2, wsI_s, upd_s]
        have b4 : ∀ p, p ≠ 5 + ty → m2.2.1 p = m.2.1 p := fun p hp => by rw [← hm2]; exact wsL_o _ _ _ hp
        have b5 : ∀ j, m2.2.1 (5 + ty) j = if j = lim ty + cnt then mN (wd T s e) else m.2.1 (5 + ty) j := fun j => by
          rw [← hm2]
          show (wsL m (5 + ty) (lim ty + cnt) (mN (wd T s e))).2.1 (5 + ty) j = _
          rw [wsL_s]
          by_cases z : j = lim ty + cnt
          · rw [z, updL_s, if_pos rfl]
          · rw [updL_o z, if_neg z]
        have b6 : m2.2.2 = m.2.2 := by rw [← hm2]; rfl
        have tc : TxC T n c2 := ⟨hn, by rw [a1 1 (by omega)]; exact hc.2.1, fun j hj => by rw [a1 2 (by omega)]; exact hc.2.2 j hj⟩
        have tm : TxM T n m2 := ⟨hn, by rw [b1 0 (by omega)]; exact hm.2.1, fun j hj => by rw [b1 1 (by omega)]; exact hm.2.2 j hj⟩
        obtain ⟨c', m', s', e', k', n1, n2, n3, n4, n5, n6⟩ := both_next tc tm (by rw [a1 1 (by omega)]; exact lc.1) (by rw [b1 0 (by omega)]; exact lm.1) en
        have nq : ∀ j, j < cnt → fq W (wd T s e) j = false := fun j hj => by
          cases z : fq W (wd T s e) j with
          | false => rfl
          | true => exact absurd (exb_iff.mpr ⟨j, hj, z⟩) hf
        have tb : Tab q ty (cnt + 1) (fun i => if i = cnt then wd T s e else W i) c2 m2 := by
          refine ⟨hl, a3, by rw [a2 1 (by omega)]; exact t3, b3, fun v hv => ?_, fun u v huv hv => ?_⟩
          · dsimp only
            by_cases z : v = cnt
            · rw [if_pos z, a5, if_pos z, b5, if_pos (by omega)]
              exact ⟨hx, rfl, rfl⟩
            · rw [if_neg z, a5, if_neg z, b5, if_neg (by omega)]
              exact t5 v (by omega)
          · dsimp only
            rw [if_neg (show ¬ u = cnt by omega)]
            by_cases z : v = cnt
            · rw [if_pos z]; exact of_decide_eq_false (nq u (by omega))
            · rw [if_neg z]; exact t6 u v huv (by omega)
        dsimp only
        rw [if_neg (n_m1 (by omega)), if_neg (show ¬ ((nI st = (5 : Int32) ∧ nI ty = (1 : Int32)) ∧ f_X6_isFunction c2 q (nI cnt) = true) from fun z => by
          have e5 : st = 5 := (n_eq (b := 5) (by omega) (by omega)).mp z.1.1
          have e1 : ty = 1 := (n_eq (b := 1) (by omega) (by omega)).mp z.1.2
          have := (hdup e5 e1 hnm).2
          have z2 := z.2
          unfold f_X6_isFunction at z2
          rw [cont_bt (by omega), a1 q (by omega), this] at z2
          cases z2)]
        rw [n1, Option.bind_some, Option.bind_some, Option.bind_some]
        refine ⟨_, c', m', rfl, ?_, ?_, Or.inr ⟨cnt, cnt + 1, _, s', e', k', rfl, ?_, by omega, tb.keepN hq ht n5 n6, Or.inr ⟨rfl, rfl⟩, n3, n4, ?_, ?_⟩⟩
        · exact FiC.trans ⟨fun p _ p2 => a1 p p2, a2, fun j _ _ _ _ => by rw [a1 1 (by omega)], fun p _ p2 => a4 p p2, a6⟩ (FnC.fi hq n5)
        · exact FiM.trans ⟨fun p _ p2 => b1 p p2, b2, fun j _ => by rw [b1 0 (by omega)], fun p _ p2 => b4 p p2, fun j hj => by rw [b5, if_neg (by omega)], b6⟩ n6.fi
        · show Option.bind (Option.bind (rdI zM m (2 + ty) (1 : Int32)) _) _ = _
          rw [rc', Option.bind_some, if_pos rfl, Option.bind_some, m_must3 hE.2, Option.bind_some, decide_eq_true (hlim.mpr hl)]
          rw [show ((true, (if true = true then m else wsI (wsI m 0 8 (nI 3)) 0 9 (m.1 0 4))) : Bool × Wd) = (true, m) from rfl, if_neg (show ¬ ¬ ((true, m) : Bool × Wd).1 = true from fun z => z rfl)]
          dsimp only
          rw [half ht, wrL_M (by rw [(zmn ht).1]; omega), Option.bind_some]
          have e1 : rdI zM (wsL m (5 + ty) (lim ty + cnt) (m.2.1 0 7)) (2 + ty) (1 : Int32) = some (nI cnt) := rc
          rw [e1, Option.bind_some, wr_many ht, Option.bind_some, Option.bind_some, nI_1, lm.2.2.2 hk1, hm2]
          dsimp only
          rw [n2, Option.bind_some]
        · rw [n5.2.1 7 (by omega) (by omega) (by omega), a1 1 (by omega)]; exact hE.1
        · rw [n6.2.1 8 (by omega) (by omega) (by omega), b1 0 (by omega)]; exact hE.2
      · -- no room
        rw [if_neg hl]
        dsimp only
        rw [if_pos rfl]
        rw [c_fail3 lc.2.1, Option.bind_some, Option.bind_some]
        refine ⟨_, _, _, rfl, fi_er hq, fm_er, Or.inl ⟨er_of lc.2.1 lm.2.1 (by omega) (show 1 ≤ 3 ∧ 3 ≤ 3 by omega), ?_, (wsI_o _ _ _ (by omega)).trans (wsI_o _ _ _ (by omega))⟩⟩
        show Option.bind (Option.bind (rdI zM m (2 + ty) (1 : Int32)) _) _ = _
        rw [rc', Option.bind_some, if_pos rfl, Option.bind_some, m_must3 hE.2, Option.bind_some, decide_eq_false (fun z => hl (hlim.mp z))]
        rfl
end OP2
