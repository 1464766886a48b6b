/-! The calls saveSnapshot and restoreSnapshot. -/
section SO
variable {p : Nat} {P : PK} {K K' : CK} {c m w : Wd} {v y : Int32} {i e d S L a b s : Nat}
theorem q_saveSnapshot (h : Core p P K c m) (hs : SnapR P c m) : ∃ r c' m', f_X9_saveSnapshot c 0 v = some (r, c') ∧ f_X10_saveSnapshot m 0 v = some (r, m') ∧ Core p P K c' m' ∧ SnapR P c' m' ∧
    ((∀ q, q ≠ 0 → ¬ (35 ≤ q ∧ q ≤ 44) → c'.1 q = c.1 q) ∧ (∀ j, j ≠ 5 → c'.1 0 j = c.1 0 j) ∧ c'.2 = c.2) ∧ ((∀ q, q ≠ 0 → q ≠ 13 → q ≠ 14 → m'.1 q = m.1 q) ∧ (∀ j, j ≠ 0 → m'.1 0 j = m.1 0 j) ∧ m'.2 = m.2) := by
  obtain ⟨hb, hh⟩ := h
  have hp := hb.1
  have hK := hb.2.2.2.2.2.2.2.1
  have hpp : p = 4 ∨ p = 18 := hp
  unfold f_X9_saveSnapshot f_X10_saveSnapshot
  rw [Option.bind_some, within01]
  cases hv : inR v 2 with
  | false =>
    rw [if_pos (slot_in.mpr hv), if_pos (by decide)]
    refine ⟨false, c, _, rfl, rfl, ⟨hb.m0, hh.keep rfl rfl (wsI_o _ _ _ (by omega)) (by rw [wsI_s, upd_o (by omega)])⟩, fun s h2 => ?_, ⟨fun _ _ _ => rfl, fun _ _ => rfl, rfl⟩, ⟨fun q q1 _ _ => wsI_o _ _ _ q1, fun j j1 => by rw [wsI_s, upd_o j1], rfl⟩⟩
    have := hs s h2
    rw [wsI_o _ _ _ (show 14 ≠ 0 by omega), wsI_o _ _ _ (show 13 ≠ 0 by omega)]
    exact this
  | true =>
    obtain ⟨s, h2, rfl⟩ := inR_t (by omega) hv
    have h2' := h2
    rw [if_neg (fun z => by have := slot_in.mp z; rw [hv] at this; cases this), if_neg (show ¬ ¬ (true = true) from fun z => z rfl), snap_ref h2, Option.bind_some, hb.rp, Option.bind_some, zp6 hp]
    obtain ⟨c1, e1, e2, e3, e4⟩ := c_copyFrom (LCs h2) hp.LC (by omega) hb.2.2.2.1 hK.1
    obtain ⟨m1, u1, u2, u3, u4, u5⟩ := m_saveLoop (m := wsI m 0 0 0) h2
    rw [e1, u1, Option.bind_some, Option.bind_some, Option.bind_some]
    show ∃ r c' m', _ ∧ Option.bind (wrI zM m1 14 (nI s) (bI true)) _ = _ ∧ _
    rw [wrI_M (show s < 2 from h2), Option.bind_some]
    have b5 : ∀ x, x < 32 → bt (c1.1 0 5 ||| jshl 1 (nI s)) x = (bt (c.1 0 5) x || decide (x = s)) := fun x hx => by
      rw [b_or, bt_bit (by omega) hx, e3 0 (by omega)]
    generalize hc2 : wsI c1 0 5 (c1.1 0 5 ||| jshl 1 (nI s)) = c2
    generalize hm2 : wsI m1 14 s (bI true) = m2
    have k1 : ∀ q, q ≠ 0 → c2.1 q = c1.1 q := fun q hq => by rw [← hc2, wsI_o _ _ _ hq]
    have k5 : c2.1 0 5 = c1.1 0 5 ||| jshl 1 (nI s) := by rw [← hc2, wsI_s, upd_s]
    have k0 : ∀ j, j ≠ 5 → c2.1 0 j = c.1 0 j := fun j hj => by rw [← hc2, wsI_s, upd_o hj, e3 0 (by omega)]
    have k2 : c2.2 = c.2 := by rw [← hc2]; exact e4
    have fc : ∀ q, q ≠ 0 → ¬ (35 ≤ q ∧ q ≤ 44) → c2.1 q = c.1 q := fun q q1 q2 => by rw [k1 q q1, e3 q (by omega)]
    have j1 : ∀ q, q ≠ 14 → m2.1 q = m1.1 q := fun q hq => by rw [← hm2, wsI_o _ _ _ hq]
    have j14 : m2.1 14 = upd (m.1 14) s (bI true) := by rw [← hm2, wsI_s, u2 14 (by omega), wsI_o _ _ _ (by omega)]
    have fm : ∀ q, q ≠ 0 → q ≠ 13 → q ≠ 14 → m2.1 q = m.1 q := fun q q1 q2 q3 => by rw [j1 q q3, u2 q q2, wsI_o _ _ _ q1]
    have f0 : ∀ j, j ≠ 0 → m2.1 0 j = m.1 0 j := fun j hj => by rw [j1 0 (by omega), u2 0 (by omega), wsI_s, upd_o hj]
    have f2 : m2.2 = m.2 := by rw [← hm2]; exact u3
    obtain ⟨g1, g2, g3, g4, g5, g6, g7, g8, g9, g10⟩ := hb
    have hB : Base p P K c2 m2 := by
      refine ⟨g1, by rw [k2]; exact g2, ?_, ?_, g5.keep fun q q1 q2 => fm q (by omega) (by omega) (by omega), g6.keep (fm 10 (by omega) (by omega) (by omega)), g7, g8, g9.keep fun q q1 q2 => fc q (by omega) (by omega), g10.keep (fm 15 (by omega) (by omega) (by omega)) (fm 17 (by omega) (by omega) (by omega)) (f0 27 (by omega))⟩
      · unfold RPc at g3 ⊢
        rw [fc _ (by omega) (by omega), fc _ (by omega) (by omega), fc _ (by omega) (by omega), fc p (by omega) (by omega), fc _ (by omega) (by omega), fc _ (by omega) (by omega)]
        exact g3
      · unfold RLc at g4 ⊢
        rw [fc _ (by omega) (by omega), fc _ (by omega) (by omega), fc _ (by omega) (by omega), fc _ (by omega) (by omega), fc _ (by omega) (by omega)]
        exact g4
    refine ⟨true, c2, m2, rfl, rfl, ⟨hB, hh.keep (fc 32 (by omega) (by omega)) (fc 33 (by omega) (by omega)) (fm 12 (by omega) (by omega) (by omega)) (f0 21 (by omega))⟩, fun t ht => ?_, ⟨fc, k0, k2⟩, ⟨fm, f0, f2⟩⟩
    rw [k5, b5 t (by omega), j14, j1 13 (by omega)]
    by_cases et : t = s
    · subst et
      refine Or.inl ⟨by simp, upd_s _ _ _, K, g8, ?_, ?_⟩
      · unfold RLc at e2 ⊢
        rw [k1 _ (by omega), k1 _ (by omega), k1 _ (by omega), k1 _ (by omega), k1 _ (by omega)]
        exact e2
      · refine (RLm_b.mp g6).copy g8.1 fun x hx => ?_
        rw [u4 x hx, wsI_o _ _ _ (by omega), Nat.zero_add]
    · rw [decide_eq_false et, Bool.or_false, upd_o et]
      rcases hs t ht with ⟨a1, a2, Ks, a3, a4, a5⟩ | a
      · refine Or.inl ⟨a1, a2, Ks, a3, ?_, ?_⟩
        · unfold RLc at a4 ⊢
          rw [k1 _ (by omega), k1 _ (by omega), k1 _ (by omega), k1 _ (by omega), k1 _ (by omega), e3 _ (by omega), e3 _ (by omega), e3 _ (by omega), e3 _ (by omega), e3 _ (by omega)]
          exact a4
        · refine a5.copy a3.1 fun x hx => ?_
          rw [u5 _ (by omega), wsI_o _ _ _ (by omega)]
      · exact Or.inr a
end SO
