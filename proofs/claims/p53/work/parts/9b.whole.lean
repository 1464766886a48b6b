/-! Every call keeps the whole relation. -/
section WH
variable {p q : Nat} {P : PK} {K K' : CK} {V O : Nat → Wrd} {c c' m m' w : Wd} {v u t a b d e f : Int32} {L n : Nat}
/-- what no call but parse changes -/
def KpC (p : Nat) (c c' : Wd) : Prop := c'.1 2 = c.1 2 ∧ c'.1 1 1 = c.1 1 1 ∧ (∀ x, 5 ≤ x → x ≤ 9 → c'.1 x = c.1 x) ∧ (∀ x, 19 ≤ x → x ≤ 23 → c'.1 x = c.1 x) ∧ c'.2.1 (p + 2) = c.2.1 (p + 2) ∧ c'.2.1 (p + 4) = c.2.1 (p + 4) ∧ c'.2.2 = c.2.2
def KpM (m m' : Wd) : Prop := m'.1 1 = m.1 1 ∧ m'.1 0 2 = m.1 0 2 ∧ m'.2.1 5 = m.2.1 5 ∧ m'.2.1 6 = m.2.1 6
theorem WR.keep (h : WR p P K V O c m) (hc : Core p P K' c' m') (hs : SnapR P c' m') (hg : GC P K' c') (hd : DC P K' V O c') (kc : KpC p c c') (km : KpM m m') : WR p P K' V O c' m' := by
  obtain ⟨-, -, ⟨L, u1, u2, u3, u4⟩, hn, hnm, -, -, l1, l2, hr⟩ := h
  obtain ⟨k1, k2, k3, k4, k5, k6, k7⟩ := kc
  obtain ⟨j1, j2, j3, j4⟩ := km
  have hp4 := hc.1.1.other.2.2
  refine ⟨hc, hs, ⟨L, u1, by rw [k2]; exact u2, by rw [j2]; exact u3, fun j hj => by rw [k1, j1]; exact u4 j hj⟩, ?_, ?_, hg, hd, ?_, ?_, by rw [k7]; exact hr⟩
  · unfold NmC at hn ⊢
    rw [k5, k6]; exact hn
  · unfold NmM at hnm ⊢
    rw [j3, j4]; exact hnm
  · unfold Lim at l1 ⊢
    rcases hp4 with rfl | rfl
    · rw [k3 _ (by omega) (by omega), k3 _ (by omega) (by omega), k3 _ (by omega) (by omega)]; exact l1
    · rw [k4 _ (by omega) (by omega), k4 _ (by omega) (by omega), k4 _ (by omega) (by omega)]; exact l1
  · unfold Lim at l2 ⊢
    rcases hp4 with rfl | rfl
    · rw [k4 _ (by omega) (by omega), k4 _ (by omega) (by omega), k4 _ (by omega) (by omega)]; exact l2
    · rw [k3 _ (by omega) (by omega), k3 _ (by omega) (by omega), k3 _ (by omega) (by omega)]; exact l2
theorem SnapR.keep (h : SnapR P c m) (h1 : c'.1 0 5 = c.1 0 5) (h2 : ∀ x, 35 ≤ x → x ≤ 44 → c'.1 x = c.1 x) (h3 : m'.1 13 = m.1 13) (h4 : m'.1 14 = m.1 14) : SnapR P c' m' := by
  unfold SnapR RLc at h ⊢
  intro s hs
  rw [h1, h2 _ (by omega) (by omega), h2 _ (by omega) (by omega), h2 _ (by omega) (by omega), h2 _ (by omega) (by omega), h2 _ (by omega) (by omega), h3, h4]
  exact h s hs
/-- class and reference answer alike, and the relation holds again -/
def Q1 {α : Type} (c : Wd) (x : Option α) (y : Option (α × Wd)) : Prop := ∃ r m', x = some r ∧ y = some (r, m') ∧ RW c m'
def Q2 {α : Type} (x y : Option (α × Wd)) : Prop := ∃ r c' m', x = some (r, c') ∧ y = some (r, m') ∧ RW c' m'
theorem Q1.sim {α : Type} {x : Option α} {y : Option (α × Wd)} (h : WR p P K V O c m) (g : QS x y m) : Q1 c x y := by
  obtain ⟨r, g1, g2⟩ := g
  exact ⟨r, _, g1, g2, p, P, K, V, O, h.m0⟩
/-- the reference alone changes -/
theorem WR.rm (h : WR p P K V O c m) (hb : Base p P K c m') (k : KpM m m') (k1 : m'.1 12 = m.1 12) (k2 : m'.1 0 21 = m.1 0 21) (k3 : m'.1 13 = m.1 13) (k4 : m'.1 14 = m.1 14) : WR p P K V O c m' := by
  have h' := h
  obtain ⟨⟨-, hh⟩, hs, -, -, -, hg, hd, -⟩ := h'
  exact h.keep ⟨hb, hh.keep rfl rfl k1 k2⟩ (hs.keep rfl (fun _ _ _ => rfl) k3 k4) hg hd ⟨rfl, rfl, fun _ _ _ => rfl, fun _ _ _ => rfl, rfl, rfl, rfl⟩ k
theorem Q1.der {x : Option Int32} {y : Option (Int32 × Wd)} (h : WR p P K V O c m) (g : QD m x y) : Q1 c x y := by
  obtain ⟨r, m', g1, g2, g3, g4, g5⟩ := g
  refine ⟨r, m', g1, g2, p, P, K, V, O, ?_⟩
  obtain ⟨h1, h2, h3, h4, h5, h6, h7, h8, h9, h10⟩ := h.1.1
  have k : ∀ j, ¬ (28 ≤ j ∧ j ≤ 32) → j ≠ 0 → m'.1 0 j = m.1 0 j := fun j hj h0 => (g4 j hj).trans (by rw [wsI_s, upd_o h0])
  have kk : ∀ q, q ≠ 0 → m'.1 q = m.1 q := fun q hq => (g3 q hq).trans (wsI_o _ _ _ hq)
  refine h.rm ⟨h1, h2, h3, h4, h5.keep fun q q1 _ => kk q (by omega), h6.keep (kk 10 (by omega)), h7, h8, h9, h10.keep (kk 15 (by omega)) (kk 17 (by omega)) (k 27 (by omega) (by omega))⟩ ⟨kk 1 (by omega), k 2 (by omega) (by omega), by rw [g5]; rfl, by rw [g5]; rfl⟩ (kk 12 (by omega)) (k 21 (by omega) (by omega)) (kk 13 (by omega)) (kk 14 (by omega))
theorem Q1.prf {x : Option Int32} {y : Option (Int32 × Wd)} (h : WR p P K V O c m) (g : QP m x y) : Q1 c x y := by
  obtain ⟨r, m', g1, g2, g3, g4, g5⟩ := g
  refine ⟨r, m', g1, g2, p, P, K, V, O, ?_⟩
  obtain ⟨h1, h2, h3, h4, h5, h6, h7, h8, h9, h10⟩ := h.1.1
  have k : ∀ j, ¬ (28 ≤ j ∧ j ≤ 32) → j ≠ 35 → j ≠ 0 → m'.1 0 j = m.1 0 j := fun j hj h35 h0 => (g4 j hj h35).trans (by rw [wsI_s, upd_o h0])
  have kk : ∀ q, q ≠ 0 → q ≠ 18 → q ≠ 19 → m'.1 q = m.1 q := fun q hq q1 q2 => (g3 q hq q1 q2).trans (wsI_o _ _ _ hq)
  refine h.rm ⟨h1, h2, h3, h4, h5.keep fun q q1 _ => kk q (by omega) (by omega) (by omega), h6.keep (kk 10 (by omega) (by omega) (by omega)), h7, h8, h9, h10.keep (kk 15 (by omega) (by omega) (by omega)) (kk 17 (by omega) (by omega) (by omega)) (k 27 (by omega) (by omega) (by omega))⟩ ⟨kk 1 (by omega) (by omega) (by omega), k 2 (by omega) (by omega) (by omega), by rw [g5]; rfl, by rw [g5]; rfl⟩ (kk 12 (by omega) (by omega) (by omega)) (k 21 (by omega) (by omega) (by omega)) (kk 13 (by omega) (by omega) (by omega)) (kk 14 (by omega) (by omega) (by omega))
theorem Q2.wif {x y : Option (Int32 × Wd)} (h : WR p P K V O c m) (g : QT p P K c m x y) : Q2 x y := by
  obtain ⟨r, c', m', g1, g2, g3, ⟨g4, g5⟩, g6, g7, g8⟩ := g
  refine ⟨r, c', m', g1, g2, p, P, K, V, O, ?_⟩
  have h' := h
  obtain ⟨⟨-, hh⟩, hs, -, -, -, hg, hd, -⟩ := h'
  have hp4 := h.1.1.1.other.2.2
  refine h.keep ⟨g3, hh.keep (g4 32 (by omega)) (g4 33 (by omega)) (g6 12 (by omega) (by omega) (by omega) (by omega)) (g7 21 (by omega) (by omega) (by omega))⟩ (hs.keep (by rw [g4 0 (by omega)]) (fun x x1 x2 => g4 x (by omega)) (g6 13 (by omega) (by omega) (by omega) (by omega)) (g6 14 (by omega) (by omega) (by omega) (by omega))) ?_ ?_ ⟨g4 2 (by omega), by rw [g4 1 (by omega)], fun x x1 x2 => g4 x (by omega), fun x x1 x2 => g4 x (by omega), by rw [g5], by rw [g5], by rw [g5]⟩ ⟨g6 1 (by omega) (by omega) (by omega) (by omega), g7 2 (by omega) (by omega) (by omega), by rw [g8], by rw [g8]⟩
  · unfold GC GG at hg ⊢
    rw [g4 0 (by omega), g5]; exact hg
  · unfold DC DT at hd ⊢
    rw [g4 0 (by omega), g4 58 (by omega), g4 59 (by omega)]; exact hd
theorem Q2.gr {x y : Option (Int32 × Wd)} (h : WR p P K V O c m) (g : QG P K c m x y) : Q2 x y := by
  obtain ⟨r, c', m', g1, g2, g3, g4, g5⟩ := g
  refine ⟨r, c', m', g1, g2, p, P, K, V, O, ?_⟩
  have h0 := h.m0
  have h' := h0
  obtain ⟨⟨hb, hh⟩, hs, -, -, -, hg, hd, -⟩ := h'
  have hp4 := h.1.1.1.other.2.2
  obtain ⟨f1, f2, f3, f4⟩ := id g3
  obtain ⟨e1, e2, e3⟩ := id g5
  refine h0.keep ⟨(hb.keepG g3).keepGM g5, hh.keep (f1 32 (by omega)) (f1 33 (by omega)) (by rw [e1]) (by rw [e1])⟩ (hs.keep (f2 5 (by omega)) (fun x x1 x2 => f1 x (by omega)) (by rw [e1]) (by rw [e1])) g4 ?_ ⟨f1 2 (by omega), by rw [f1 1 (by omega)], fun x x1 x2 => f1 x (by omega), fun x x1 x2 => f1 x (by omega), f3 _ (by omega), f3 _ (by omega), f4⟩ ⟨by rw [e1], by rw [e1], e2 5 (by omega), e2 6 (by omega)⟩
  unfold DC DT at hd ⊢
  rw [f2 10 (by omega), f1 58 (by omega), f1 59 (by omega)]; exact hd
theorem Q2.dmp {x y : Option (Int32 × Wd)} (h : WR p P K V O c m) (g : QDm P K V O c m x y) : Q2 x y := by
  obtain ⟨r, c', m', g1, g2, ⟨f1, f2, f3⟩, g4, e1, e2, e3⟩ := g
  refine ⟨r, c', m', g1, g2, p, P, K, V, O, ?_⟩
  have h0 := h.m0
  have h' := h0
  obtain ⟨⟨hb, hh⟩, hs, -, -, -, hg, hd, -⟩ := h'
  have hp4 := h.1.1.1.other.2.2
  obtain ⟨h1, h2, h3, h4, h5, h6, h7, h8, h9, h10⟩ := hb
  refine h0.keep ⟨⟨h1, by rw [f3]; exact h2, ?_, ?_, h5.keep fun q q1 q2 => e1 q (by omega) (by omega), h6.keep (e1 10 (by omega) (by omega)), h7, h8, h9.keep fun q q1 q2 => f1 q (by omega) (by omega) (by omega), h10.keep (e1 15 (by omega) (by omega)) (e1 17 (by omega) (by omega)) (e2 27 (by omega))⟩, hh.keep (f1 32 (by omega) (by omega) (by omega)) (f1 33 (by omega) (by omega) (by omega)) (e1 12 (by omega) (by omega)) (e2 21 (by omega))⟩ (hs.keep (f2 5 (by omega)) (fun x x1 x2 => f1 x (by omega) (by omega) (by omega)) (e1 13 (by omega) (by omega)) (e1 14 (by omega) (by omega))) ?_ g4 ⟨f1 2 (by omega) (by omega) (by omega), by rw [f1 1 (by omega) (by omega) (by omega)], fun x x1 x2 => f1 x (by omega) (by omega) (by omega), fun x x1 x2 => f1 x (by omega) (by omega) (by omega), by rw [f3], by rw [f3], by rw [f3]⟩ ⟨e1 1 (by omega) (by omega), e2 2 (by omega), by rw [e3], by rw [e3]⟩
  · unfold RPc at h3 ⊢
    rw [f1 _ (by omega) (by omega) (by omega), f1 _ (by omega) (by omega) (by omega), f1 _ (by omega) (by omega) (by omega), f1 p (by omega) (by omega) (by omega), f1 _ (by omega) (by omega) (by omega), f1 _ (by omega) (by omega) (by omega)]
    exact h3
  · unfold RLc at h4 ⊢
    rw [f1 _ (by omega) (by omega) (by omega), f1 _ (by omega) (by omega) (by omega), f1 _ (by omega) (by omega) (by omega), f1 _ (by omega) (by omega) (by omega), f1 _ (by omega) (by omega) (by omega)]
    exact h4
  · unfold GC GG at hg ⊢
    rw [f2 9 (by omega), f3]; exact hg
theorem Q2.chg {α : Type} {x y : Option (α × Wd)} (h : WR p P K V O c m) (g : ∃ r K' c' m', x = some (r, c') ∧ y = some (r, m') ∧ Core p P K' c' m' ∧ FcX p c c' ∧ FmX m m' ∧ ((K' = K ∧ c' = c) ∨ Stale c')) : Q2 x y := by
  obtain ⟨r, K', c', m', g1, g2, g3, ⟨f1, f2, f3⟩, ⟨e1, e2, e3⟩, g6⟩ := g
  refine ⟨r, c', m', g1, g2, p, P, K', V, O, ?_⟩
  have h' := h
  obtain ⟨-, hs, -, -, -, hg, hd, -⟩ := h'
  have hp4 := h.1.1.1.other.2.2
  refine h.keep g3 (hs.keep (f2 5 (by omega) (by omega)) (fun x x1 x2 => f1 x (by omega) (by omega) (by omega) (by omega)) (e1 13 (by omega) (by omega) (by omega) (by omega)) (e1 14 (by omega) (by omega) (by omega) (by omega))) ?_ ?_ ⟨f1 2 (by omega) (by omega) (by omega) (by omega), by rw [f1 1 (by omega) (by omega) (by omega) (by omega)], fun x x1 x2 => f1 x (by omega) (by omega) (by omega) (by omega), fun x x1 x2 => f1 x (by omega) (by omega) (by omega) (by omega), by rw [f3], by rw [f3], by rw [f3]⟩ ⟨e1 1 (by omega) (by omega) (by omega) (by omega), e2 2 (by omega) (by omega) (by omega), by rw [e3], by rw [e3]⟩
  · rcases g6 with ⟨rfl, rfl⟩ | g6
    · exact hg
    · exact Or.inl g6.1
  · rcases g6 with ⟨rfl, rfl⟩ | g6
    · exact hd
    · exact Or.inl g6.2
theorem w_append (h : RW c m) : Q2 (f_X9_append c 0 a b d e f) (f_X10_append m 0 a b d e f) := by
  obtain ⟨p, P, K, V, O, h⟩ := h
  have h' := h
  obtain ⟨⟨hb, hh⟩, hs, hu, hn, hnm, hg, hd, l1, l2, hr⟩ := h'
  have hp4 := h.1.1.1.other.2.2
  obtain ⟨r, c', m', g1, g2, g3, ⟨f1, f2, f3⟩, e1, e2, e3⟩ := q_append (a := a) (b := b) (d := d) (e := e) (f := f) hu
  obtain ⟨h1, h2, h3, h4, h5, h6, h7, h8, h9, h10⟩ := hb
  refine ⟨r, c', m', g1, g2, p, P, K, V, O, ⟨⟨h1, by rw [f3]; exact h2, ?_, ?_, ?_, h6.keep (e1 10 (by omega) (by omega)), h7, h8, h9.keep fun q q1 q2 => f1 q (by omega) (by omega), h10.keep (e1 15 (by omega) (by omega)) (e1 17 (by omega) (by omega)) (e2 27 (by omega) (by omega))⟩, hh.keep (f1 32 (by omega) (by omega)) (f1 33 (by omega) (by omega)) (e1 12 (by omega) (by omega)) (e2 21 (by omega) (by omega))⟩, hs.keep (by rw [f1 0 (by omega) (by omega)]) (fun x x1 x2 => f1 x (by omega) (by omega)) (e1 13 (by omega) (by omega)) (e1 14 (by omega) (by omega)), g3, ?_, ?_, ?_, ?_, ?_, ?_, by rw [f3]; exact hr⟩
  · unfold RPc at h3 ⊢
    rw [f1 _ (by omega) (by omega), f1 _ (by omega) (by omega), f1 _ (by omega) (by omega), f1 p (by omega) (by omega), f1 _ (by omega) (by omega), f1 _ (by omega) (by omega)]
    exact h3
  · unfold RLc at h4 ⊢
    rw [f1 _ (by omega) (by omega), f1 _ (by omega) (by omega), f1 _ (by omega) (by omega), f1 _ (by omega) (by omega), f1 _ (by omega) (by omega)]
    exact h4
  · unfold RPm at h5 ⊢
    rw [e1 2 (by omega) (by omega), e1 3 (by omega) (by omega), e1 4 (by omega) (by omega), e1 8 (by omega) (by omega), e1 9 (by omega) (by omega)]
    exact h5
  · unfold NmC at hn ⊢
    rw [f3]; exact hn
  · unfold NmM at hnm ⊢
    rw [e3]; exact hnm
  · unfold GC GG at hg ⊢
    rw [f1 0 (by omega) (by omega), f3]; exact hg
  · unfold DC DT at hd ⊢
    rw [f1 0 (by omega) (by omega), f1 58 (by omega) (by omega), f1 59 (by omega) (by omega)]; exact hd
  · unfold Lim at l1 ⊢
    rw [f1 _ (by omega) (by omega), f1 _ (by omega) (by omega), f1 _ (by omega) (by omega)]; exact l1
  · unfold Lim at l2 ⊢
    rw [f1 _ (by omega) (by omega), f1 _ (by omega) (by omega), f1 _ (by omega) (by omega)]; exact l2
theorem w_save (h : RW c m) : Q2 (f_X9_saveSnapshot c 0 v) (f_X10_saveSnapshot m 0 v) := by
  obtain ⟨p, P, K, V, O, h⟩ := h
  have h' := h
  obtain ⟨hc, hs, hu, hn, hnm, hg, hd, l1, l2, hr⟩ := h'
  have hp4 := h.1.1.1.other.2.2
  obtain ⟨r, c', m', g1, g2, g3, g4, ⟨f1, f2, f3⟩, e1, e2, e3⟩ := q_saveSnapshot (v := v) hc hs
  refine ⟨r, c', m', g1, g2, p, P, K, V, O, h.keep g3 g4 ?_ ?_ ⟨f1 2 (by omega) (by omega), by rw [f1 1 (by omega) (by omega)], fun x x1 x2 => f1 x (by omega) (by omega), fun x x1 x2 => f1 x (by omega) (by omega), by rw [f3], by rw [f3], by rw [f3]⟩ ⟨e1 1 (by omega) (by omega) (by omega), e2 2 (by omega), by rw [e3], by rw [e3]⟩⟩
  · unfold GC GG at hg ⊢
    rw [f2 9 (by omega), f3]; exact hg
  · unfold DC DT at hd ⊢
    rw [f2 10 (by omega), f1 58 (by omega) (by omega), f1 59 (by omega) (by omega)]; exact hd
end WH
