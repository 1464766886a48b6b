/-! parse, whole. -/
section PB
variable {p q : Nat} {P : PK} {K : CK} {V O : Nat → Wrd} {c c' m m' w c5 m5 : Wd} {v : Int32} {L n : Nat}
theorem PC.other (hp : PC p) : PC (22 - p) ∧ 22 - (22 - p) = p ∧ (p = 4 ∨ p = 18) := by
  rcases hp with rfl | rfl
  · exact ⟨Or.inr rfl, rfl, Or.inl rfl⟩
  · exact ⟨Or.inl rfl, rfl, Or.inr rfl⟩
/-- a call that ends in an error of the text leaves the relation -/
theorem WR.err (h : WR p P K V O c m) (hq : q = 22 - p) (a : PrC q n c c5) (b : PrM n m m5) (fc : FpC q c5 c') (fm : FpM m5 m') : WR p P K V O c' m' := by
  obtain ⟨⟨hb, hh⟩, hs, hu, hn, hnm, hg, hd, l1, l2, hr⟩ := h
  obtain ⟨hpo, hpp, hp4⟩ := hb.1.other
  have c1 : ∀ x, x ≠ 1 → x ≠ 3 → ¬ (q ≤ x ∧ x ≤ q + 13) → c'.1 x = c.1 x := fun x x1 x2 x3 => (fc.1 x x1 x2 x3).trans (a.1 x x1 x3)
  have c2 : ∀ x, x ≠ 1 → ¬ (q ≤ x ∧ x ≤ q + 13) → c'.2.1 x = c.2.1 x := fun x x1 x2 => (fc.2.2.1 x x1 x2).trans (by rw [a.2.2.2.1])
  have c3 : c'.2.2 = c.2.2 := fc.2.2.2.1.trans (by rw [a.2.2.2.1])
  have m1 : ∀ x, x ≠ 0 → ¬ (2 ≤ x ∧ x ≤ 4) → x ≠ 8 → x ≠ 9 → x ≠ 11 → m'.1 x = m.1 x := fun x x1 x2 x3 x4 x5 => (fm.1 x x1 x2 x3 x4 x5).trans (b.1 x x1 x2 x5)
  have m2 : ∀ j, j ≠ 0 → j ≠ 2 → j ≠ 3 → ¬ (4 ≤ j ∧ j ≤ 9) → m'.1 0 j = m.1 0 j := fun j j0 j2 j3 j4 => (fm.2.1 j j4).trans (b.2.1 j j0 j2 j3 (by omega) (by omega))
  have m3 : m'.1 2 0 = m.1 2 0 ∧ m'.1 3 0 = m.1 3 0 ∧ m'.1 4 0 = m.1 4 0 := ⟨(fm.2.2.1 2 (by omega) (by omega)).trans b.2.2.2.2.2.1, (fm.2.2.1 3 (by omega) (by omega)).trans b.2.2.2.2.2.2.1, (fm.2.2.1 4 (by omega) (by omega)).trans b.2.2.2.2.2.2.2⟩
  have m4 : ∀ j, j < 10 → m'.1 8 j = m.1 8 j ∧ m'.1 9 j = m.1 9 j := fun j hj => ⟨((fm.2.2.2.1 j hj).1).trans (by rw [b.1 8 (by omega) (by omega) (by omega)]), ((fm.2.2.2.1 j hj).2).trans (by rw [b.1 9 (by omega) (by omega) (by omega)])⟩
  have m5' : ∀ ty, ty < 3 → ∀ j, j < lim ty → m'.2.1 (5 + ty) j = m.2.1 (5 + ty) j := fun ty ht j hj => (fm.2.2.2.2.2.1 ty ht j hj).trans (by rw [b.2.2.2.1])
  obtain ⟨h1, h2, h3, h4, h5, h6, h7, h8, h9, h10⟩ := hb
  have hno := h7.2.1
  have hnv := h7.1
  subst hq
  refine ⟨⟨⟨h1, by rw [c3]; exact h2, ?_, ?_, ?_, h6.keep (m1 10 (by omega) (by omega) (by omega) (by omega) (by omega)), h7, h8, h9.keep fun x x1 x2 => c1 x (by omega) (by omega) (by omega), h10.keep (m1 15 (by omega) (by omega) (by omega) (by omega) (by omega)) (m1 17 (by omega) (by omega) (by omega) (by omega) (by omega)) (m2 27 (by omega) (by omega) (by omega) (by omega))⟩, hh.keep (c1 32 (by omega) (by omega) (by omega)) (c1 33 (by omega) (by omega) (by omega)) (m1 12 (by omega) (by omega) (by omega) (by omega) (by omega)) (m2 21 (by omega) (by omega) (by omega) (by omega))⟩, ?_, ?_, ?_, ?_, ?_, ?_, ?_, ?_, by rw [c3]; exact hr⟩
  · unfold RPc at h3 ⊢
    rw [c1 _ (by omega) (by omega) (by omega), c1 _ (by omega) (by omega) (by omega), c1 _ (by omega) (by omega) (by omega), c1 p (by omega) (by omega) (by omega), c1 _ (by omega) (by omega) (by omega), c1 _ (by omega) (by omega) (by omega)]
    exact h3
  · unfold RLc at h4 ⊢
    rw [c1 _ (by omega) (by omega) (by omega), c1 _ (by omega) (by omega) (by omega), c1 _ (by omega) (by omega) (by omega), c1 _ (by omega) (by omega) (by omega), c1 _ (by omega) (by omega) (by omega)]
    exact h4
  · unfold RPm at h5 ⊢
    rw [m3.1, m3.2.1, m3.2.2]
    refine ⟨h5.1, h5.2.1, h5.2.2.1, fun o ho => ?_⟩
    rw [(m4 o (by omega)).1, (m4 o (by omega)).2]
    exact h5.2.2.2 o ho
  · unfold SnapR RLc at hs ⊢
    intro s hs2
    rw [c1 0 (by omega) (by omega) (by omega), c1 (35 + 5 * s) (by omega) (by omega) (by omega), c1 (35 + 5 * s + 1) (by omega) (by omega) (by omega), c1 (35 + 5 * s + 2) (by omega) (by omega) (by omega), c1 (35 + 5 * s + 3) (by omega) (by omega) (by omega), c1 (35 + 5 * s + 4) (by omega) (by omega) (by omega), m1 14 (by omega) (by omega) (by omega) (by omega) (by omega), m1 13 (by omega) (by omega) (by omega) (by omega) (by omega)]
    exact hs s hs2
  · exact ⟨0, by omega, (fc.2.1 1 (by omega)).trans a.2.2.1.1, (fm.2.1 2 (by omega)).trans b.2.2.1.1, fun j hj => absurd hj (Nat.not_lt_zero j)⟩
  · unfold NmC at hn ⊢
    rw [c2 _ (by omega) (by omega), c2 _ (by omega) (by omega)]
    exact hn
  · refine ⟨fun x hx => ?_, fun o ho => ?_⟩
    · exact (m5' 0 (by omega) x (show x < 16 by omega)).trans (hnm.1 x hx)
    · exact (m5' 1 (by omega) o (show o < 10 by omega)).trans (hnm.2 o ho)
  · unfold GC GG at hg ⊢
    rw [c1 0 (by omega) (by omega) (by omega), c2 55 (by omega) (by omega), c2 57 (by omega) (by omega), c2 54 (by omega) (by omega)]
    exact hg
  · unfold DC DT at hd ⊢
    rw [c1 0 (by omega) (by omega) (by omega), c1 58 (by omega) (by omega) (by omega), c1 59 (by omega) (by omega) (by omega)]
    exact hd
  · unfold Lim at l1 ⊢
    rw [c1 _ (by omega) (by omega) (by omega), c1 _ (by omega) (by omega) (by omega), c1 _ (by omega) (by omega) (by omega)]
    exact l1
  · obtain ⟨e1, e2, e3⟩ := a.2.2.2.2.2
    exact ⟨((fc.2.2.2.2 0 (by omega)).trans e1).trans l2.1, ((fc.2.2.2.2 1 (by omega)).trans e2).trans l2.2.1, ((fc.2.2.2.2 2 (by omega)).trans e3).trans l2.2.2⟩
/-- the reference's call only clears its word for what was thrown -/
theorem WR.m0 (h : WR p P K V O c m) : WR p P K V O c (wsI m 0 0 0) := by
  obtain ⟨⟨hb, hh⟩, hs, ⟨L, u1, u2, u3, u4⟩, hn, hnm, hg, hd, l1, l2, hr⟩ := h
  refine ⟨⟨hb.m0, hh.keep rfl rfl (wsI_o _ _ _ (by omega)) (by rw [wsI_s, upd_o (by omega)])⟩, ?_, ⟨L, u1, u2, by rw [wsI_s, upd_o (by omega)]; exact u3, fun j hj => by rw [wsI_o _ _ _ (by omega)]; exact u4 j hj⟩, hn, hnm, hg, hd, l1, l2, hr⟩
  unfold SnapR at hs ⊢
  intro s hs2
  rw [wsI_o _ _ _ (by omega), wsI_o _ _ _ (by omega)]
  exact hs s hs2
end PB
