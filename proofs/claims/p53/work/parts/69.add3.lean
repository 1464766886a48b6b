/-! The call addConstraint, class against reference. -/
section AF
variable {p : Nat} {P : PK} {K : CK} {c m : Wd} {v a b d : Int32}
theorem q_addConstraint (h : Core p P K c m) : ∃ r K' c' m', f_X9_addConstraint c 0 v a b d = some (r, c') ∧ f_X10_addConstraint m 0 v a b d = some (r, m') ∧ Core p P K' c' m' ∧ FcX p c c' ∧ FmX m m' ∧ ((K' = K ∧ c' = c) ∨ Stale c') := by
  obtain ⟨hb, hh⟩ := h
  have hp := hb.1
  have hP := hb.2.2.2.2.2.2.1
  have hK := hb.2.2.2.2.2.2.2.1
  have h30 := hK.1
  have hpp : p = 4 ∨ p = 18 := hp
  have same : ∀ x : Int32, ∃ r K' c' m', (some (x, c) : Option (Int32 × Wd)) = some (r, c') ∧ (some (x, wsI m 0 0 0) : Option (Int32 × Wd)) = some (r, m') ∧ Core p P K' c' m' ∧ FcX p c c' ∧ FmX m m' ∧ ((K' = K ∧ c' = c) ∨ Stale c') := fun x =>
    ⟨x, K, c, wsI m 0 0 0, rfl, rfl, ⟨hb.m0, hh.keep rfl rfl (wsI_o _ _ _ (by omega)) (by rw [wsI_s, upd_o (by omega)])⟩, ⟨fun _ _ _ _ _ => rfl, fun _ _ _ => rfl, rfl⟩, ⟨fun q q1 _ _ _ => wsI_o _ _ _ q1, fun j j1 _ _ => by rw [wsI_s, upd_o j1], rfl⟩, Or.inl ⟨rfl, rfl⟩⟩
  unfold f_X9_addConstraint f_X10_addConstraint
  rw [c_refuse hb, Option.bind_some, Option.bind_some, m_refuse hb.m0, Option.bind_some, hb.rp, Option.bind_some]
  by_cases hv : v < 0 ∨ 4 < v
  · rw [if_pos hv, if_pos hv, if_pos rfl, if_pos (by decide)]
    exact same (-1)
  · rw [if_neg hv, if_neg hv]
    obtain ⟨k, hk, rfl⟩ := nI_of (fun z => hv (Or.inl z))
    have hk4 : k ≤ 4 := Classical.byContradiction fun q => hv (Or.inr ((nI_ltI (a := 4) (by omega) hk).mpr (by omega)))
    rw [n_cl (by omega)]
    cases hok : okOp P k a b d with
    | false =>
      rw [if_pos (by decide), if_pos (by decide)]
      exact same (-1)
    | true =>
      rw [if_neg (by decide), if_neg (show ¬ ¬ (true = true) from fun z => z rfl), m_count hb.m0.2.2.2.2.2.1, Option.bind_some, zp6 hp]
      obtain ⟨x, y, z, rfl, rfl, rfl, hrow⟩ := okOp_row hP hk4 hok
      have hfull : f_X0_isFull c (p + 9) = decide (30 ≤ nc K) := by
        unfold f_X0_isFull
        rw [hb.2.2.2.1.1]
        exact decide_eq_decide.mpr (n_le (a := 30) (by omega) (by omega))
      rw [hfull]
      by_cases hn : nc K = 30
      · rw [if_pos (decide_eq_true (by omega)), Option.bind_some, if_pos (show nI (nc K) = (30 : Int32) by rw [hn]; rfl)]
        exact same (-2)
      · have hn30 : nc K < 30 := by omega
        rw [if_neg (fun q => by have := of_decide_eq_true q; omega), Option.bind_some, if_neg (show ¬ nI (nc K) = (30 : Int32) from fun q => hn ((n_eq (b := 30) (by omega) (by omega)).mp q))]
        have hK' := addK_ok (z := z) hK hn30 hrow
        have hch := addK_change (K := K) (k := k) (x := x) (y' := y) (z := z)
        obtain ⟨d, nx, hs, ch, hr⟩ := hh
        obtain ⟨r1, r2, r3, r4, -⟩ := id hr
        obtain ⟨c1, t1, t2, t3, t4⟩ := c_add (k := k) (x := x) (y' := y) (z := z) hp.LC hb.2.2.2.1 hn30
        obtain ⟨c2, p1, p2, p3, p4, p5, p6⟩ := c_push (c := c1) (y := -1) (nx := nx) (d := d) (by rw [t3 32 (by omega)]; exact r3) (by rw [t3 32 (by omega)]; exact r4) r2 r1
        have hP2 : RPc c2 p P := by
          have q := hb.2.2.1
          unfold RPc at q ⊢
          rw [p2 _ (by omega) (by omega), p2 _ (by omega) (by omega), p2 _ (by omega) (by omega), p2 p (by omega) (by omega), p2 _ (by omega) (by omega), p2 _ (by omega) (by omega), t3 _ (by omega), t3 _ (by omega), t3 _ (by omega), t3 p (by omega), t3 _ (by omega), t3 _ (by omega)]
          exact q
        have hL2 : RLc c2 (p + 9) (addK K k x y z) := by
          unfold RLc at t2 ⊢
          rw [p2 _ (by omega) (by omega), p2 _ (by omega) (by omega), p2 _ (by omega) (by omega), p2 _ (by omega) (by omega), p2 _ (by omega) (by omega)]
          exact t2
        obtain ⟨c3, s1, s2, s3, s4, s5, s6⟩ := c_settle hp (by rw [p3, t4]; exact hb.2.1) hP2 hL2 hP hK'
        have hrm : HR P K (c.1 32) (c.1 33) ((wsI m 0 0 0).1 12) ((wsI m 0 0 0).1 0 21) d nx hs ch := by
          rw [wsI_o _ _ _ (by omega), wsI_s, upd_o (by omega)]; exact hr
        obtain ⟨m1, g1, g2, g3, g4, g5, g6⟩ := m_keep hrm hb.m0.2.2.2.2.2.1 hK
        have hL1 : RLm m1 K := hb.m0.2.2.2.2.2.1.keep (g2 10 (by omega) (by omega))
        obtain ⟨m2, j1, hLm2, j3, j4⟩ := m_row (k := k) (x := x) (y' := y) (z := z) hL1 hn30
        have hPm2 : RPm m2 P := hb.m0.2.2.2.2.1.keep fun q q1 q2 => by rw [j3 q (by omega), g2 q (by omega) (by omega)]
        obtain ⟨m3, y1, y2, y3, y4, y5⟩ := m_solve hPm2 hLm2 hP hK'
        have hP3 : RPc c3 p P := by
          unfold RPc at hP2 ⊢
          rw [s3 _ (by omega) (by omega), s3 _ (by omega) (by omega), s3 _ (by omega) (by omega), s3 p (by omega) (by omega), s3 _ (by omega) (by omega), s3 _ (by omega) (by omega)]
          exact hP2
        have hL3 : RLc c3 (p + 9) (addK K k x y z) := by
          unfold RLc at hL2 ⊢
          rw [s3 _ (by omega) (by omega), s3 _ (by omega) (by omega), s3 _ (by omega) (by omega), s3 _ (by omega) (by omega), s3 _ (by omega) (by omega)]
          exact hL2
        have hrd3 : rdD zC c3 0 1 6 = some p := by unfold rdD; rw [s5, p3, t4, hb.2.1, if_pos hp.ct]
        refine ⟨nI (nc K), addK K k x y z, c3, m3, ?_, ?_, ⟨⟨hp, by rw [s5, p3, t4]; exact hb.2.1, hP3, hL3, hPm2.keep fun q q1 q2 => y3 q (by omega) (by omega) (by omega) (by omega), hLm2.keep (y3 10 (by omega) (by omega) (by omega) (by omega)), hP, hK', s2, y2⟩, ?_⟩, ⟨fun q q1 q2 q3 q4 => ?_, fun j jj1 jj2 => ?_, ?_⟩, ⟨fun q q1 q2 q3 q4 => ?_, fun j jj1 jj2 jj3 => ?_, ?_⟩, Or.inr s6⟩
        · rw [t1, Option.bind_some]
          show Option.bind (f_X3_push c1 32 (-1)) _ = _
          rw [p1, Option.bind_some, s1, Option.bind_some, hrd3, Option.bind_some, zp6 hp, hL3.1]
          show some (nI (nc K + 1) - 1, c3) = _
          rw [nI_pred]
        · rw [g1, Option.bind_some, j1, y1]; rfl
        · refine hrm.push hK hch (g32 := c3.1 32) (g33 := c3.1 33) ?_ ?_ ?_ ?_ (fun j hj => ?_)
          · rw [s3 32 (by omega) (by omega)]; exact p5
          · rw [s3 32 (by omega) (by omega)]; exact p6
          · rw [s3 33 (by omega) (by omega), p4, t3 33 (by omega)]
          · rw [y4 21 (by omega), j3 0 (by omega)]; exact g5
          · rw [y3 12 (by omega) (by omega) (by omega) (by omega), j3 12 (by omega)]; exact g6 j hj
        · rw [s3 q q1 q4, p2 q (by omega) (by omega), t3 q (by omega)]
        · rw [s4 j jj1 jj2, p2 0 (by omega) (by omega), t3 0 (by omega)]
        · rw [s5, p3, t4]
        · rw [y3 q q1 (by omega) (by omega) (by omega), j3 q q2, g2 q q1 q3, wsI_o _ _ _ q1]
        · rw [y4 j jj3, j3 0 (by omega), g3 j jj2, wsI_s, upd_o jj1]
        · rw [y5, j4, g4]; rfl
end AF
