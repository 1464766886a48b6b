/-! The call restoreSnapshot. -/
section RE
variable {p : Nat} {P : PK} {K K' : CK} {c m w : Wd} {v y : Int32} {i e d S L a b s : Nat}
theorem m_restoreLoop (hs : s < 2) : wp (lp (b_X10_restoreSnapshot_1 0 (nI s)) NF ((0 : Int32), m)) (fun r => (∀ q, q ≠ 10 → r.1 q = m.1 q) ∧ r.2 = m.2 ∧ ∀ x, x < 122 → r.1 10 x = m.1 13 (122 * s + x)) := by
  refine lp_inv (fun i t => t.1 = nI i ∧ (∀ q, q ≠ 10 → t.2.1 q = m.1 q) ∧ t.2.2 = m.2 ∧ ∀ x, x < i → t.2.1 10 x = m.1 13 (122 * s + x)) _ 122 ?_ ?_ (by decide) ⟨rfl, fun _ _ => rfl, rfl, fun x h => by omega⟩
  · rintro i ⟨si, w⟩ hi ⟨rfl, a, b, c⟩
    dsimp only at a b c
    unfold b_X10_restoreSnapshot_1
    dsimp only
    rw [if_pos (show nI i < (122 : Int32) from (n_lt (b := 122) (by omega) (by omega)).mpr hi)]
    show wp (Option.bind (rdI zM w 13 (nI 122 * nI s + nI i)) fun x9 => Option.bind (wrI zM w 10 (nI i) x9) _) _
    rw [pk_mul, nI_add, rdI_M (show 122 * s + i < 244 by omega), Option.bind_some, wrI_M (show i < 122 from hi), Option.bind_some, wp_some]
    refine ⟨nI_1 i, fun q hq => ?_, b, fun x hx => ?_⟩
    · dsimp only
      rw [wsI_o _ _ _ hq]; exact a q hq
    · dsimp only
      rw [wsI_s]
      by_cases q : x = i
      · subst q; rw [upd_s, a 13 (by omega)]
      · rw [upd_o q]; exact c x (by omega)
  · rintro ⟨si, w⟩ ⟨rfl, a, b, c⟩
    dsimp only at a b c
    unfold b_X10_restoreSnapshot_1
    dsimp only
    rw [if_neg (show ¬ nI 122 < (122 : Int32) by decide), wp_some]
    exact ⟨a, b, c⟩
theorem q_restoreSnapshot (h : Core p P K c m) (hs : SnapR P c m) : ∃ r K' c' m', f_X9_restoreSnapshot c 0 v = some (r, c') ∧ f_X10_restoreSnapshot m 0 v = some (r, m') ∧ Core p P K' c' m' ∧ FcX p c c' ∧ FmX m m' ∧ ((K' = K ∧ c' = c) ∨ Stale c') := by
  obtain ⟨hb, hh⟩ := h
  have hp := hb.1
  have hP := hb.2.2.2.2.2.2.1
  have hpp : p = 4 ∨ p = 18 := hp
  unfold f_X9_restoreSnapshot f_X10_restoreSnapshot
  rw [Option.bind_some, within01]
  have same : ∃ r K' c' m', (some (false, c) : Option (Bool × Wd)) = some (r, c') ∧ (some (false, wsI m 0 0 0) : Option (Bool × Wd)) = some (r, m') ∧ Core p P K' c' m' ∧ FcX p c c' ∧ FmX m m' ∧ ((K' = K ∧ c' = c) ∨ Stale c') :=
    ⟨false, K, c, wsI m 0 0 0, rfl, rfl, ⟨hb.m0, hh.keep rfl rfl (wsI_o _ _ _ (by omega)) (by rw [wsI_s, upd_o (by omega)])⟩, ⟨fun _ _ _ _ _ => rfl, fun _ _ _ => rfl, rfl⟩, ⟨fun q q1 _ _ _ => wsI_o _ _ _ q1, fun j j1 _ _ => by rw [wsI_s, upd_o j1], rfl⟩, Or.inl ⟨rfl, rfl⟩⟩
  cases hv : inR v 2 with
  | false =>
    rw [if_pos (Or.inl (slot_in.mpr hv)), if_neg (by decide), Option.bind_some, if_pos rfl]
    exact same
  | true =>
    obtain ⟨s, h2, rfl⟩ := inR_t (by omega) hv
    have nin : ¬ (nI s < (0 : Int32) ∨ (2 : Int32) ≤ nI s) := fun z => by have := slot_in.mp z; rw [hv] at this; cases this
    have hz : rdZ zM (wsI m 0 0 0) (zrf zM 0 23) (nI s) = rdB (m.1 14 s) := by
      unfold rdZ
      show (if nI s < 0 ∨ zln zM 14 ≤ (nI s).toNatClampNeg then none else rdB ((wsI m 0 0 0).1 14 (nI s).toNatClampNeg)) = _
      rw [if_neg (ix_ok (n := zln zM 14) (show s < 2 from h2) (zlnM_le 14)), n_cl (by omega), wsI_o _ _ _ (by omega)]
    rw [hz, cont_bt (by omega), if_pos rfl]
    rcases hs s h2 with ⟨a1, a2, K', a3, a4, a5⟩ | ⟨a1, a2⟩
    · rw [a1, a2, rdB_t, if_neg (fun z => z.elim nin (fun q => q rfl)), Option.bind_some, if_pos rfl, Option.bind_some, if_neg (by decide), hb.rp, Option.bind_some, snap_ref h2, Option.bind_some, zp6 hp]
      have hK' := a3
      obtain ⟨c1, e1, e2, e3, e4⟩ := c_copyFrom (c := c) (S := p + 9) (L := 35 + 5 * s) hp.LC (LCs h2) (by omega) a4 a3.1
      have t2 : f_X3_clear c1 32 = some (wsI (wsI c1 32 1 0) 32 2 0) := rfl
      generalize hc2 : wsI (wsI c1 32 1 0) 32 2 0 = c2 at t2
      have k1 : ∀ q, q ≠ 32 → c2.1 q = c1.1 q := fun q hq => by rw [← hc2, wsI_o _ _ _ hq, wsI_o _ _ _ hq]
      have k321 : c2.1 32 1 = 0 := by rw [← hc2, wsI_s, upd_o (by omega), wsI_s, upd_s]
      have k322 : c2.1 32 2 = 0 := by rw [← hc2, wsI_s, upd_s]
      have k2 : c2.2 = c.2 := by rw [← hc2]; exact e4
      have hP2 : RPc c2 p P := by
        have q := hb.2.2.1
        unfold RPc at q ⊢
        rw [k1 _ (by omega), k1 _ (by omega), k1 _ (by omega), k1 p (by omega), k1 _ (by omega), k1 _ (by omega), e3 _ (by omega), e3 _ (by omega), e3 _ (by omega), e3 p (by omega), e3 _ (by omega), e3 _ (by omega)]
        exact q
      have hL2 : RLc c2 (p + 9) K' := by
        unfold RLc at e2 ⊢
        rw [k1 _ (by omega), k1 _ (by omega), k1 _ (by omega), k1 _ (by omega), k1 _ (by omega)]
        exact e2
      obtain ⟨c3, s1, s2, s3, s4, s5, s6⟩ := c_settle hp (by rw [k2]; exact hb.2.1) hP2 hL2 hP hK'
      obtain ⟨m1, u1, u2, u3, u4⟩ := m_restoreLoop (m := wsI m 0 0 0) h2
      generalize hm2 : wsI m1 0 21 0 = m2
      have j1 : ∀ q, q ≠ 0 → m2.1 q = m1.1 q := fun q hq => by rw [← hm2, wsI_o _ _ _ hq]
      have j21 : m2.1 0 21 = 0 := by rw [← hm2, wsI_s, upd_s]
      have j0 : ∀ j, j ≠ 0 → j ≠ 21 → m2.1 0 j = m.1 0 j := fun j q1 q2 => by rw [← hm2, wsI_s, upd_o q2, u2 0 (by omega), wsI_s, upd_o q1]
      have jm : ∀ q, q ≠ 0 → q ≠ 10 → m2.1 q = m.1 q := fun q q1 q2 => by rw [j1 q q1, u2 q q2, wsI_o _ _ _ q1]
      have hPm2 : RPm m2 P := hb.2.2.2.2.1.keep fun q q1 q2 => jm q (by omega) (by omega)
      have hLm2 : RLm m2 K' := RLm_b.mpr (a5.copy a3.1 fun x hx => by rw [Nat.zero_add, j1 10 (by omega), u4 x hx, wsI_o _ _ _ (by omega)])
      obtain ⟨m3, y1, y2, y3, y4, y5⟩ := m_solve hPm2 hLm2 hP hK'
      have hP3 : RPc c3 p P := by
        unfold RPc at hP2 ⊢
        rw [s3 _ (by omega) (by omega), s3 _ (by omega) (by omega), s3 _ (by omega) (by omega), s3 p (by omega) (by omega), s3 _ (by omega) (by omega), s3 _ (by omega) (by omega)]
        exact hP2
      have hL3 : RLc c3 (p + 9) K' := by
        unfold RLc at hL2 ⊢
        rw [s3 _ (by omega) (by omega), s3 _ (by omega) (by omega), s3 _ (by omega) (by omega), s3 _ (by omega) (by omega), s3 _ (by omega) (by omega)]
        exact hL2
      refine ⟨true, K', c3, m3, ?_, ?_, ⟨⟨hp, by rw [s5, k2]; exact hb.2.1, hP3, hL3, hPm2.keep fun q q1 q2 => y3 q (by omega) (by omega) (by omega) (by omega), hLm2.keep (y3 10 (by omega) (by omega) (by omega) (by omega)), hP, hK', s2, y2⟩, ?_⟩, ⟨fun q q1 q2 q3 q4 => ?_, fun j jj1 jj2 => ?_, ?_⟩, ⟨fun q q1 q2 q3 q4 => ?_, fun j jj1 jj2 jj3 => ?_, ?_⟩, Or.inr s6⟩
      · rw [e1, Option.bind_some]
        show Option.bind (f_X3_clear c1 32) _ = _
        rw [t2, Option.bind_some, s1]; rfl
      · rw [u1, Option.bind_some, Option.bind_some, hm2, y1]; rfl
      · refine HistR.clear ?_ ?_ ?_
        · rw [s3 32 (by omega) (by omega)]; exact k321
        · rw [s3 32 (by omega) (by omega)]; exact k322
        · rw [y4 21 (by omega)]; exact j21
      · rw [s3 q q1 q4, k1 q (by omega), e3 q (by omega)]
      · rw [s4 j jj1 jj2, k1 0 (by omega), e3 0 (by omega)]
      · rw [s5, k2]
      · rw [y3 q q1 (by omega) (by omega) (by omega), jm q q1 q2]
      · rw [y4 j jj3, j0 j jj1 jj2]
      · rw [y5, ← hm2]
        show m1.2 = _
        rw [u3]; rfl
    · rw [a1, a2, rdB_t, if_pos (Or.inr (by decide)), Option.bind_some, if_neg (by decide), Option.bind_some, if_pos rfl]
      exact same
end RE
