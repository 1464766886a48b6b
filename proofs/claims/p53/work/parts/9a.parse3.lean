/-! parse: the program that was read is taken over. -/
section PC3
variable {p q : Nat} {P : PK} {K : CK} {V O : Nat → Wrd} {c c' m m' w c5 m5 : Wd} {v : Int32} {L n s e : Nat} {T : Nat → Nat} {N : Nat → Nat} {W : Nat → Nat → Wrd}
theorem rdD_of {k j t y : Nat} (h : w.2.2 k j = y) (ht : zct zC y = t) : rdD zC w k j t = some y := by
  unfold rdD
  rw [h, if_pos ht]
theorem parse_take (hp : PC p) (hq : q = 22 - p) (hr1 : c.2.2 0 1 = p) (hr2 : c.2.2 0 2 = q) (lp1 : Lim c p) (a : PrC q n c c5) (b : PrM n m m5) {n' : Nat} (h : JB q T n' s e 0 N W P K c5 m5 c' m') :
    ∃ r c2 m2, Option.bind (rdD zC c' 0 1 6) (fun x7 => Option.bind (rdD zC c' 0 2 6) (fun x8 => Option.bind (some (wsR c' 0 1 x8)) (fun w9 => Option.bind (some (wsR w9 0 2 x7)) (fun w10 => Option.bind (f_X3_clear w10 (zrf zC 0 3)) (fun w11 => Option.bind (some (wsI w11 0 5 (0 : Int32))) (fun w12 => Option.bind (f_X9_settle w12 0) (fun w13 => Option.bind (rdD zC w13 0 1 6) (fun x14 => some (w13.1 (zrf zC x14 6) 4, w13))))))))) = some (r, c2) ∧
      Option.bind (rdI zM m' (zrf zM 0 19) (0 : Int32)) (fun x34 => Option.bind (wrI zM m' (zrf zM 0 19) (1 : Int32) (f_X10_allOf x34)) (fun w35 => Option.bind (f_X10_adopt w35 0) (fun w36 => Option.bind (f_X10_solve w36 0) (fun w37 => Option.bind (rdI zM w37 (zrf zM 0 18) (0 : Int32)) (fun x38 => some (x38, w37)))))) = some (r, m2) ∧
      WR q P K (W 0) (W 1) c2 m2 := by
  obtain ⟨hpo, hpp, hp4⟩ := hp.other
  have hqc : PC q := by rw [hq]; exact hpo
  obtain ⟨fc, fm, hL, hE, hT, ⟨n0, n1, n2⟩, ⟨hF1, hF2, hF3⟩, ⟨k1, k2, k3⟩, hPw, hKw, hen⟩ := h
  have h30 := hKw.1
  have hnv := hPw.1
  have hno := hPw.2.1
  obtain ⟨t0l, t0c, t0i, t0m, t0w, t0u⟩ := hT 0 (by omega)
  obtain ⟨t1l, t1c, t1i, t1m, t1w, t1u⟩ := hT 1 (by omega)
  obtain ⟨t2l, t2c, t2i, t2m, t2w, t2u⟩ := hT 2 (by omega)
  have c1 : ∀ x, x ≠ 1 → x ≠ 3 → ¬ (q ≤ x ∧ x ≤ q + 13) → c'.1 x = c.1 x := fun x x1 x2 x3 => (fc.1 x x1 x2 x3).trans (a.1 x x1 x3)
  have c3 : c'.2.2 = c.2.2 := fc.2.2.2.1.trans (by rw [a.2.2.2.1])
  -- the class
  rw [rdD_of (y := p) (by rw [c3]; exact hr1) hp.ct, Option.bind_some, rdD_of (y := q) (by rw [c3]; exact hr2) hqc.ct, Option.bind_some, Option.bind_some, Option.bind_some]
  have e3 : f_X3_clear (wsR (wsR c' 0 1 q) 0 2 p) (zrf zC 0 3) = some (wsI (wsI (wsR (wsR c' 0 1 q) 0 2 p) 32 1 0) 32 2 0) := rfl
  rw [e3, Option.bind_some, Option.bind_some]
  generalize hw : wsI (wsI (wsI (wsR (wsR c' 0 1 q) 0 2 p) 32 1 0) 32 2 0) 0 5 0 = w12
  have d1 : ∀ x, x ≠ 0 → x ≠ 32 → w12.1 x = c'.1 x := fun x x1 x2 => by rw [← hw, wsI_o _ _ _ x1, wsI_o _ _ _ x2, wsI_o _ _ _ x2]; rfl
  have d2 : w12.1 32 1 = 0 ∧ w12.1 32 2 = 0 := by
    constructor
    · rw [← hw, wsI_o _ _ _ (by omega), wsI_s, upd_o (by omega), wsI_s, upd_s]
    · rw [← hw, wsI_o _ _ _ (by omega), wsI_s, upd_s]
  have d3 : w12.1 0 5 = 0 := by rw [← hw, wsI_s, upd_s]
  have d4 : w12.2.1 = c'.2.1 := by rw [← hw]; rfl
  have d5 : w12.2.2 0 1 = q := by rw [← hw]; rfl
  have d6 : w12.2.2 0 2 = p := by rw [← hw]; rfl
  have hPq : RPc w12 q P := by
    unfold RPc
    rw [d1 (q + 1) (by omega) (by omega), d1 (q + 3) (by omega) (by omega), d1 (q + 5) (by omega) (by omega), d1 q (by omega) (by omega), d1 (q + 7) (by omega) (by omega), d1 (q + 8) (by omega) (by omega), n0, n1, n2]
    exact ⟨t0c, t1c, t2c, hF1, hF2⟩
  have hLq : RLc w12 (q + 9) K := by
    unfold RLc at k1 ⊢
    rw [d1 (q + 9) (by omega) (by omega), d1 (q + 9 + 1) (by omega) (by omega), d1 (q + 9 + 2) (by omega) (by omega), d1 (q + 9 + 3) (by omega) (by omega), d1 (q + 9 + 4) (by omega) (by omega)]
    exact k1
  obtain ⟨c2, s1, s2, s3, s4, s5, s6⟩ := c_settle hqc d5 hPq hLq hPw hKw
  rw [s1, Option.bind_some, rdD_of (y := q) (by rw [s5]; exact d5) hqc.ct, Option.bind_some, zp6 hqc]
  have rc : c2.1 (q + 9) 4 = nI (nc K) := by rw [s3 _ (by omega) (by omega)]; exact hLq.1
  rw [rc]
  -- the reference
  rw [rd11, Option.bind_some, k2, allOf_en h30 hen, show wrI zM m' (zrf zM 0 19) (1 : Int32) (en K) = some (wsI m' 11 1 (en K)) from wr11 (j := 1) (by omega), Option.bind_some]
  generalize hm : wsI m' 11 1 (en K) = m3
  have g1 : ∀ x, x ≠ 11 → m3.1 x = m'.1 x := fun x hx => by rw [← hm, wsI_o _ _ _ hx]
  have g2 : ∀ j, j ≠ 1 → m3.1 11 j = m'.1 11 j := fun j hj => by rw [← hm, wsI_s, upd_o hj]
  have g3 : m3.1 11 1 = en K := by rw [← hm, wsI_s, upd_s]
  have g4 : m3.2 = m'.2 := by rw [← hm]; rfl
  obtain ⟨m4, x0, x1, x2, x3, x4, x5, x6, x7, x8, x9, x10, x11⟩ := m_adopt (m := m3)
  rw [x0, Option.bind_some]
  have hPm : RPm m4 P := by
    refine ⟨?_, ?_, ?_, fun o ho => ?_⟩
    · rw [x4.1, g1 2 (by omega), n0]; exact t0m
    · rw [x4.2.1, g1 3 (by omega), n1]; exact t1m
    · rw [x4.2.2, g1 4 (by omega), n2]; exact t2m
    · rw [(x5 o (by omega)).1, (x5 o (by omega)).2, g1 8 (by omega), g1 9 (by omega)]; exact hF3 o ho
  have hLm : RLm m4 K := by
    refine ⟨?_, ?_, fun i hi => ?_⟩
    · rw [x6 0 (by omega), g2 0 (by omega)]; exact k2
    · rw [x6 1 (by omega)]; exact g3
    · rw [x6 _ (by omega), x6 _ (by omega), x6 _ (by omega), x6 _ (by omega), g2 _ (by omega), g2 _ (by omega), g2 _ (by omega), g2 _ (by omega)]; exact k3 i hi
  obtain ⟨m2, y0, y1, y2, y3, y4⟩ := m_solve hPm hLm hPw hKw
  rw [y0, Option.bind_some, m_count (hLm.keep (y2 10 (by omega) (by omega) (by omega) (by omega))), Option.bind_some]
  refine ⟨_, c2, m2, rfl, rfl, ⟨⟨hqc, by rw [s5]; exact d5, ?_, ?_, hPm.keep fun x x1 x2 => y2 x (by omega) (by omega) (by omega) (by omega), hLm.keep (y2 10 (by omega) (by omega) (by omega) (by omega)), hPw, hKw, s2, y1⟩, ?_⟩, ?_, ?_, ?_, ?_, Or.inl s6.1, Or.inl s6.2, ?_, ?_, ?_⟩
  · unfold RPc at hPq ⊢
    rw [s3 _ (by omega) (by omega), s3 _ (by omega) (by omega), s3 _ (by omega) (by omega), s3 q (by omega) (by omega), s3 _ (by omega) (by omega), s3 _ (by omega) (by omega)]
    exact hPq
  · unfold RLc at hLq ⊢
    rw [s3 _ (by omega) (by omega), s3 _ (by omega) (by omega), s3 _ (by omega) (by omega), s3 _ (by omega) (by omega), s3 _ (by omega) (by omega)]
    exact hLq
  · refine HistR.clear ?_ ?_ ?_
    · rw [s3 32 (by omega) (by omega)]; exact d2.1
    · rw [s3 32 (by omega) (by omega)]; exact d2.2
    · rw [y3 21 (by omega)]; exact x3
  · intro i hi
    refine Or.inr ⟨?_, ?_⟩
    · rw [s4 5 (by omega) (by omega), d3, b_0]
    · rw [y2 14 (by omega) (by omega) (by omega) (by omega)]
      have hh : i = 0 ∨ i = 1 := by omega
      rcases hh with rfl | rfl
      · exact x7.1
      · exact x7.2
  · refine ⟨0, by omega, ?_, ?_, fun j hj => absurd hj (Nat.not_lt_zero j)⟩
    · rw [s3 1 (by omega) (by omega), d1 1 (by omega) (by omega)]; exact (fc.2.1 1 (by omega)).trans a.2.2.1.1
    · rw [y3 2 (by omega), x2 2 (by omega), g1 0 (by omega)]; exact (fm.2.1 2 (by omega)).trans b.2.2.1.1
  · refine ⟨fun x hx => ?_, fun o ho => ?_⟩
    · rw [s5, d4]; exact ⟨(t0w x (by omega)).1, (t0w x (by omega)).2.1⟩
    · rw [s5, d4]; exact ⟨(t1w o (by omega)).1, (t1w o (by omega)).2.1⟩
  · refine ⟨fun x hx => ?_, fun o ho => ?_⟩
    · rw [y4, x8 x (by omega), g4]; exact (t0w x (by omega)).2.2
    · rw [y4, x9 o (by omega), g4]; exact (t1w o (by omega)).2.2
  · refine ⟨?_, ?_, ?_⟩
    · rw [s3 _ (by omega) (by omega), d1 _ (by omega) (by omega)]; exact t0i
    · rw [s3 _ (by omega) (by omega), d1 _ (by omega) (by omega)]; exact t1i
    · rw [s3 _ (by omega) (by omega), d1 _ (by omega) (by omega)]; exact t2i
  · have e : 22 - q = p := by omega
    rw [e]
    unfold Lim at lp1 ⊢
    rw [s3 _ (by omega) (by omega), s3 _ (by omega) (by omega), s3 _ (by omega) (by omega), d1 _ (by omega) (by omega), d1 _ (by omega) (by omega), d1 _ (by omega) (by omega), c1 _ (by omega) (by omega) (by omega), c1 _ (by omega) (by omega) (by omega), c1 _ (by omega) (by omega) (by omega)]
    exact lp1
  · rw [s5, d6]; omega
theorem q_parse (h : RW c m) : ∃ r c' m', f_X9_parse c 0 v = some (r, c') ∧ f_X10_parse m 0 v = some (r, m') ∧ RW c' m' := by
  obtain ⟨p, P, K, V, O, h⟩ := h
  obtain ⟨⟨hb, hh⟩, hs, ⟨L, u1, u2, u3, u4⟩, hn, hnm, hg, hd, l1, l2, hr⟩ := id h
  obtain ⟨hpo, hpp, hp4⟩ := hb.1.other
  unfold f_X9_parse f_X10_parse
  rw [Option.bind_some]
  have hw : f_X10_within v.toInt64 (0 : Int64) ((wsI m 0 0 0).1 0 2).toInt64 = inR v (L + 1) := by
    rw [wsI_s, upd_o (by omega), u3]; exact within_L (by omega)
  rw [hw]
  show ∃ r c' m', (if v < (0 : Int32) ∨ c.1 1 1 < v then _ else _) = _ ∧ _
  rw [u2]
  cases e : inR v (L + 1) with
  | false =>
    have e' := of_decide_eq_false e
    rw [if_pos (show ¬ false = true by decide), if_pos (by
      rcases Decidable.em (v < (0 : Int32)) with z | z
      · exact Or.inl z
      · refine Or.inr ?_
        rcases Decidable.em (nI L < v) with y | y
        · exact y
        · obtain ⟨j, hj, rfl⟩ := i_nn (i_lt z)
          have h1 : nI j ≤ nI L := i_lt y
          have h2 := (nI_leI hj (by omega)).mp h1
          exact absurd ⟨i_lt z, (nI_ltI hj (by omega)).mpr (by omega)⟩ e')]
    exact ⟨-1, c, _, rfl, rfl, p, P, K, V, O, h.m0⟩
  | true =>
    obtain ⟨n, hnL, rfl⟩ := inR_t (by omega) e
    have nL : ¬ nI L < nI n := fun z => by have := (n_lt (by omega) (by omega)).mp z; omega
    rw [if_neg (show ¬ ¬ true = true by decide), if_neg (fun z => z.elim (n_neg (by omega)) nL), rdD_of (y := 22 - p) hr hpo.ct, Option.bind_some]
    -- both prepare
    unfold f_X5_read
    obtain ⟨c5, a0, a⟩ := c_clear (c := c) (n := n) hpo
    obtain ⟨m5, b0, b⟩ := m_prep (m := m) (n := n)
    show ∃ r c' m', Option.bind (Option.bind (some (wsI c 1 2 (if c.1 1 1 < nI n then c.1 1 1 else nI n))) _) _ = _ ∧ Option.bind (some (wsI (wsI m 0 0 0) 0 3 (nI n))) (fun w3 => Option.bind (some (wsI w3 0 2 (0 : Int32))) (fun w4 => Option.bind (some (wsI w4 0 5 (0 : Int32))) (fun w5 => Option.bind (some (wsI w5 0 8 (0 : Int32))) (fun w6 => Option.bind (wrI zM w6 2 (nI 1) (0 : Int32)) (fun w7 => Option.bind (wrI zM w7 3 (nI 1) (0 : Int32)) (fun w8 => Option.bind (wrI zM w8 4 (nI 1) (0 : Int32)) (fun w9 => Option.bind (wrI zM w9 11 (nI 0) (0 : Int32)) (fun w10 => Option.bind (f_X10_nextToken w10 0) _)))))))) = _ ∧ _
    rw [u2, if_neg nL, Option.bind_some, Option.bind_some, Option.bind_some, Option.bind_some, Option.bind_some, Option.bind_some, Option.bind_some, Option.bind_some]
    show ∃ r c' m', Option.bind (Option.bind (f_X6_clear (wsI (wsI (wsI (wsI c 1 2 (nI n)) 1 1 0) 1 3 0) 1 7 0) (22 - p)) _) _ = _ ∧ _
    rw [a0, Option.bind_some, wrI_M (show 1 < zln zM 2 from (by decide : 1 < 2)), Option.bind_some, wrI_M (show 1 < zln zM 3 from (by decide : 1 < 2)), Option.bind_some, wrI_M (show 1 < zln zM 4 from (by decide : 1 < 2)), Option.bind_some, wrI_M (show 0 < zln zM 11 from (by decide : 0 < 122)), Option.bind_some, b0]
    obtain ⟨c6, m6, s, e, k, n1, n2, jb⟩ := jb_start (T := fun j => byN (c.1 2 j)) hpo a b l2 (show n ≤ 600 by omega) (fun j hj => by
      have := u4 j (by omega)
      exact ⟨byN_lt _, (byN_eq this.2).symm, by rw [byN_eq this.2]; exact this.1.symm⟩)
    rw [show zrf zC 0 0 = 1 from rfl, n1, Option.bind_some, n2, Option.bind_some]
    have hfit := jb.fit
    obtain ⟨c7, m7, z1, z2, z3⟩ := both_loop hpo 600 NF NF 0 _ _ _ _ _ _ _ _ _ (by omega) (by decide) (by decide) (Nat.zero_le _) jb
    have z1' : lp (b_X5_read_1 1 (22 - p)) NF ((0 : Int32), c6) = some c7 := z1
    show ∃ r c' m', Option.bind (Option.bind (lp (b_X5_read_1 1 (22 - p)) NF ((0 : Int32), c6)) _) _ = _ ∧ _
    rw [z1', Option.bind_some, Option.bind_some, z2, Option.bind_some]
    rcases z3 with ⟨fc, fm, er⟩ | ⟨T', n', s', e', N, W, P', K', jb'⟩
    · have hne := er.ne
      obtain ⟨o, kk, x1, x2, x3, x4, x5, x6⟩ := er
      dsimp only
      rw [if_pos hne.1, if_pos hne.2, x1, x2, x3]
      refine ⟨(-2 : Int32) - nI (8 * o + kk), c7, m7, rfl, ?_, p, P, K, V, O, h.err rfl a b fc fm⟩
      have e8 : (8 : Int32) * nI o + nI kk = nI (8 * o + kk) := by
        show nI 8 * nI o + nI kk = _
        rw [pk_mul, nI_add]
      rw [e8]
    · dsimp only
      rw [if_neg (fun z => z jb'.err0.1), if_neg (fun z => z jb'.err0.2)]
      obtain ⟨r, c8, m8, g1, g2, g3⟩ := parse_take hb.1 rfl hb.2.1 hr l1 a b jb'
      exact ⟨r, c8, m8, g1, g2, _, _, _, _, _, g3⟩
end PC3
