/-! The calls undo and undoDepth. -/
section UN
variable {p : Nat} {P : PK} {K K' : CK} {c m : Wd} {v y : Int32} {i e d : Nat} {b : Bool}
theorem q_undoDepth (h : Core p P K c m) : QS (some (f_X9_undoDepth c 0)) (f_X10_undoDepth m 0) m := by
  obtain ⟨hb, d, nx, hs, ch, r1, r2, r3, r4, r5, -⟩ := h
  refine ⟨nI d, ?_, ?_⟩
  · unfold f_X9_undoDepth
    show some (c.1 32 2) = _
    rw [r4]
  · unfold f_X10_undoDepth
    rw [Option.bind_some, wsI_s, upd_o (by omega), r5]
theorem m_undoLoop (h : m.1 0 21 = nI e) (he : e < 12) : wp (lp (b_X10_undo_1 0) NF ((0 : Int32), m)) (fun r => (∀ q, q ≠ 10 → r.1 q = m.1 q) ∧ r.2 = m.2 ∧ ∀ x, x < 122 → r.1 10 x = m.1 12 (122 * e + x)) := by
  refine lp_inv (fun i s => s.1 = nI i ∧ (∀ q, q ≠ 10 → s.2.1 q = m.1 q) ∧ s.2.2 = m.2 ∧ ∀ x, x < i → s.2.1 10 x = m.1 12 (122 * e + x)) _ 122 ?_ ?_ (by decide) ⟨rfl, fun _ _ => rfl, rfl, fun x h => by omega⟩
  · rintro i ⟨si, w⟩ hi ⟨rfl, a, b, c⟩
    dsimp only at a b c
    unfold b_X10_undo_1
    dsimp only
    rw [if_pos (show nI i < (122 : Int32) from (n_lt (b := 122) (by omega) (by omega)).mpr hi)]
    show wp (Option.bind (rdI zM w 12 (nI 122 * w.1 0 21 + nI i)) fun x7 => Option.bind (wrI zM w 10 (nI i) x7) _) _
    rw [a 0 (by omega), h, pk_mul, nI_add, rdI_M (show 122 * e + i < 1464 by omega), Option.bind_some, wrI_M (show i < 122 from hi), Option.bind_some, wp_some]
    refine ⟨nI_1 i, fun q hq => ?_, b, fun x hx => ?_⟩
    · dsimp only
      rw [wsI_o _ _ _ hq]; exact a q hq
    · dsimp only
      rw [wsI_s]
      by_cases q : x = i
      · subst q; rw [upd_s, a 12 (by omega)]
      · rw [upd_o q]; exact c x (by omega)
  · rintro ⟨si, w⟩ ⟨rfl, a, b, c⟩
    dsimp only at a b c
    unfold b_X10_undo_1
    dsimp only
    rw [if_neg (show ¬ nI 122 < (122 : Int32) by decide), wp_some]
    exact ⟨a, b, c⟩
/-- the class takes a change back -/
theorem c_back (hp : PC p) (hL : RLc c (p + 9) K) (hK' : CWF P K') (hK : CWF P K) (hc : ChangeTo K' y K) : ∃ c', (if y = (-1 : Int32) then Option.bind ((f_X0_removeLast c (p + 9))) (fun w8 => some w8) else Option.bind ((f_X0_toggle c (p + 9) y)) (fun w6 => some w6)) = some c' ∧ RLc c' (p + 9) K' ∧ (∀ q, q ≠ p + 9 → c'.1 q = c.1 q) ∧ c'.2 = c.2 := by
  have h30 := hK.1
  have rows : ∀ w : Wd, (∀ q, q ≠ p + 9 → w.1 q = c.1 q) → ∀ x, x < nc K' → nc K' ≤ nc K → Rows K' K (nc K') → w.1 (p + 9 + 1) x = nI (kd K' x) ∧ w.1 (p + 9 + 2) x = nI (ka K' x) ∧ w.1 (p + 9 + 3) x = nI (kb K' x) ∧ w.1 (p + 9 + 4) x = thI (kd K' x) (kc K' x) := by
    intro w hw x hx hle hr
    obtain ⟨a1, a2, a3, a4⟩ := hr x hx
    obtain ⟨b1, b2, b3, b4⟩ := hL.2.2 x (by omega)
    rw [hw _ (by omega), hw _ (by omega), hw _ (by omega), hw _ (by omega), b1, b2, b3, b4, a1, a2, a3, a4]
    exact ⟨rfl, rfl, rfl, rfl⟩
  rcases hc with ⟨rfl, h1, h2, h3⟩ | ⟨i, hi, rfl, h1, h2, h3⟩
  · rw [if_pos rfl]
    unfold f_X0_removeLast
    rw [hL.1, h1, if_pos (show (0 : Int32) < nI (nc K' + 1) from (n_lt (a := 0) (by omega) (by omega)).mpr (by omega)), Option.bind_some, Option.bind_some, Option.bind_some, Option.bind_some]
    have e1 : nI (nc K' + 1) - 1 = nI (nc K') := nI_pred _
    rw [e1]
    refine ⟨_, rfl, ⟨?_, ?_, fun x hx => rows _ (fun q hq => by rw [wsI_o _ _ _ hq, wsI_o _ _ _ hq]) x hx (by omega) h3⟩, fun q hq => by rw [wsI_o _ _ _ hq, wsI_o _ _ _ hq], rfl⟩
    · rw [wsI_s, upd_o (by omega), wsI_s, upd_s]
    · rw [wsI_s, upd_s, wsI_s, upd_o (by omega), upd_s, hL.2.1, h2]
      refine b_ext fun x hx => ?_
      rw [b_and, b_or, bt_not hx, bt_bit (by omega) hx]
      by_cases e : x = nc K'
      · subst e
        rw [decide_eq_true rfl]
        cases hb : bt (en K') (nc K') with
        | false => rfl
        | true => have := hK'.2.1 _ hb; omega
      · rw [decide_eq_false e]; simp
  · rw [if_neg (n_m1 (by omega))]
    refine ⟨wsI c (p + 9) 5 (c.1 (p + 9) 5 ^^^ jshl 1 (nI i)), rfl, ⟨?_, ?_, fun x hx => rows _ (fun q hq => wsI_o _ _ _ hq) x hx (by omega) h3⟩, fun q hq => wsI_o _ _ _ hq, rfl⟩
    · rw [wsI_s, upd_o (by omega), hL.1, h1]
    · rw [wsI_s, upd_s, hL.2.1, h2]
      refine b_ext fun x hx => ?_
      rw [b_xor, b_xor]
      cases bt (en K') x <;> cases bt (jshl 1 (nI i)) x <;> rfl
theorem q_undo (h : Core p P K c m) : ∃ r K' c' m', f_X9_undo c 0 = some (r, c') ∧ f_X10_undo m 0 = some (r, m') ∧ Core p P K' c' m' ∧ FcX p c c' ∧ FmX m m' ∧ ((K' = K ∧ c' = c) ∨ Stale c') := by
  obtain ⟨hb, d, nx, hs, ch, hr⟩ := h
  have hp := hb.1
  have hP := hb.2.2.2.2.2.2.1
  have hK := hb.2.2.2.2.2.2.2.1
  have hpp : p = 4 ∨ p = 18 := hp
  have hr' := hr
  obtain ⟨r1, r2, r3, r4, r5, r6, r7⟩ := hr'
  unfold f_X9_undo f_X10_undo
  rw [Option.bind_some]
  have t21 : (wsI m 0 0 0).1 0 21 = nI d := by rw [wsI_s, upd_o (by omega), r5]
  show ∃ r K' c' m', (if c.1 32 2 = (0 : Int32) then _ else _) = _ ∧ _
  rw [r4, t21]
  by_cases hd : d = 0
  · rw [if_pos (show nI d = (0 : Int32) by rw [hd]; rfl), if_pos (show nI d = (0 : Int32) by rw [hd]; rfl)]
    exact ⟨-2, K, c, _, rfl, rfl, ⟨hb.m0, ⟨d, nx, hs, ch, by rw [wsI_o _ _ _ (by omega), t21, ← r5]; exact hr⟩⟩, ⟨fun _ _ _ _ _ => rfl, fun _ _ _ => rfl, rfl⟩, ⟨fun q q1 _ _ _ => wsI_o _ _ _ q1, fun j j1 _ _ => by rw [wsI_s, upd_o j1], rfl⟩, Or.inl ⟨rfl, rfl⟩⟩
  · have hne : ¬ nI d = (0 : Int32) := fun z => hd ((n_eq (b := 0) (by omega) (by omega)).mp z)
    rw [if_neg hne, if_neg hne, Option.bind_some]
    -- the class: pop, take back, settle
    obtain ⟨c1, p1, p2, p3, p4, p5⟩ := c_pop r3 r4 r2 (show 0 < d by omega) r1
    obtain ⟨hpop, e33, hch, hK', hRLb⟩ := hr.pop (by omega) (g32 := c1.1 32) (g21 := nI (d - 1)) p4 p5 rfl
    have hP1 : RPc c1 p P := by
      have q := hb.2.2.1
      unfold RPc at q ⊢
      rw [p2 _ (by omega), p2 _ (by omega), p2 _ (by omega), p2 p (by omega), p2 _ (by omega), p2 _ (by omega)]
      exact q
    have hL1 : RLc c1 (p + 9) K := by
      have q := hb.2.2.2.1
      unfold RLc at q ⊢
      rw [p2 _ (by omega), p2 _ (by omega), p2 _ (by omega), p2 _ (by omega), p2 _ (by omega)]
      exact q
    obtain ⟨c2, b1, b2, b3, b4⟩ := c_back hp hL1 hK' hK hch
    have hP2 : RPc c2 p P := by
      unfold RPc at hP1 ⊢
      rw [b3 _ (by omega), b3 _ (by omega), b3 _ (by omega), b3 p (by omega), b3 _ (by omega), b3 _ (by omega)]
      exact hP1
    have hrd1 : rdD zC c1 0 1 6 = some p := by
      unfold rdD
      rw [p3, hb.2.1, if_pos hp.ct]
    obtain ⟨c3, s1, s2, s3, s4, s5, s6⟩ := c_settle hp (by rw [b4, p3]; exact hb.2.1) hP2 b2 hP hK'
    -- the reference: one state less, copy, solve
    generalize hm1 : wsI (wsI m 0 0 0) 0 21 (nI d - 1) = m1
    have j1 : ∀ q, q ≠ 0 → m1.1 q = m.1 q := fun q hq => by rw [← hm1, wsI_o _ _ _ hq, wsI_o _ _ _ hq]
    have j21 : m1.1 0 21 = nI (d - 1) := by rw [← hm1, wsI_s, upd_s]; exact pk_sub (b := 1) (by omega)
    have j0 : ∀ j, j ≠ 0 → j ≠ 21 → m1.1 0 j = m.1 0 j := fun j a1 a2 => by rw [← hm1, wsI_s, upd_o a2, wsI_s, upd_o a1]
    obtain ⟨m2, u1, u2, u3, u4⟩ := m_undoLoop j21 (show d - 1 < 12 by omega)
    have hPm2 : RPm m2 P := hb.2.2.2.2.1.keep fun q q1 q2 => by rw [u2 q (by omega), j1 q (by omega)]
    have hLm2 : RLm m2 (hs (d - 1)) := RLm_b.mpr (hRLb.copy hK'.1 fun x hx => by rw [Nat.zero_add, u4 x hx, j1 12 (by omega)])
    obtain ⟨m3, y1, y2, y3, y4, y5⟩ := m_solve hPm2 hLm2 hP hK'
    have hP3 : RPc c3 p P := by
      unfold RPc at hP2 ⊢
      rw [s3 _ (by omega) (by omega), s3 _ (by omega) (by omega), s3 _ (by omega) (by omega), s3 p (by omega) (by omega), s3 _ (by omega) (by omega), s3 _ (by omega) (by omega)]
      exact hP2
    have hL3 : RLc c3 (p + 9) (hs (d - 1)) := by
      unfold RLc at b2 ⊢
      rw [s3 _ (by omega) (by omega), s3 _ (by omega) (by omega), s3 _ (by omega) (by omega), s3 _ (by omega) (by omega), s3 _ (by omega) (by omega)]
      exact b2
    have c32 : c3.1 32 = c1.1 32 := by rw [s3 32 (by omega) (by omega), b3 32 (by omega)]
    have m21 : m3.1 0 21 = nI (d - 1) := by rw [y4 21 (by omega), u2 0 (by omega), j21]
    refine ⟨nI (d - 1), hs (d - 1), c3, m3, ?_, ?_, ⟨⟨hp, by rw [s5, b4, p3]; exact hb.2.1, hP3, hL3, hPm2.keep fun q q1 q2 => y3 q (by omega) (by omega) (by omega) (by omega), hLm2.keep (y3 10 (by omega) (by omega) (by omega) (by omega)), hP, hK', s2, y2⟩, ?_⟩, ⟨fun q q1 q2 q3 q4 => ?_, fun j jj1 jj2 => ?_, ?_⟩, ⟨fun q q1 q2 q3 q4 => ?_, fun j jj1 jj2 jj3 => ?_, ?_⟩, Or.inr s6⟩
    · show Option.bind (f_X3_pop c 32) _ = _
      rw [p1, Option.bind_some]
      dsimp only
      rw [hrd1, Option.bind_some, Option.bind_some, zp6 hp, e33, b1, Option.bind_some, s1, Option.bind_some]
      show some (c3.1 32 2, c3) = _
      rw [c32, p5]
    · rw [u1, Option.bind_some, y1, Option.bind_some, m21]
    · refine hpop.keep c32 ?_ ?_ m21
      · rw [s3 33 (by omega) (by omega), b3 33 (by omega), p2 33 (by omega)]
      · rw [y3 12 (by omega) (by omega) (by omega) (by omega), u2 12 (by omega), j1 12 (by omega)]
    · rw [s3 q q1 q4, b3 q (by omega), p2 q (by omega)]
    · rw [s4 j jj1 jj2, b3 0 (by omega), p2 0 (by omega)]
    · rw [s5, b4, p3]
    · rw [y3 q q1 (by omega) (by omega) (by omega), u2 q q2, j1 q q1]
    · rw [y4 j jj3, u2 0 (by omega), j0 j jj1 jj2]
    · rw [y5, u3, ← hm1]; rfl
end UN
