/-! The calls append and bufferLength. -/
def BB (L : Nat) (c m : Wd) : Prop := c.1 1 1 = nI L ∧ m.1 0 2 = nI L ∧ ∀ j, j < L → c.1 2 j = m.1 1 j ∧ ∃ y, c.1 2 j = jbyte y
def BufR (c m : Wd) : Prop := ∃ L, L ≤ 600 ∧ BB L c m
def FcA (c c' : Wd) : Prop := (∀ q, q ≠ 1 → q ≠ 2 → c'.1 q = c.1 q) ∧ (∀ j, j ≠ 1 → c'.1 1 j = c.1 1 j) ∧ c'.2 = c.2
def FmA (m m' : Wd) : Prop := (∀ q, q ≠ 0 → q ≠ 1 → m'.1 q = m.1 q) ∧ (∀ j, j ≠ 0 → j ≠ 2 → m'.1 0 j = m.1 0 j) ∧ m'.2 = m.2
section AQ
variable {c m : Wd} {v a b d e f : Int32} {L : Nat}
theorem FcA.trans {x y z : Wd} (h : FcA x y) (h' : FcA y z) : FcA x z := ⟨fun q q1 q2 => (h'.1 q q1 q2).trans (h.1 q q1 q2), fun j j1 => (h'.2.1 j j1).trans (h.2.1 j j1), h'.2.2.trans h.2.2⟩
theorem FmA.trans {x y z : Wd} (h : FmA x y) (h' : FmA y z) : FmA x z := ⟨fun q q1 q2 => (h'.1 q q1 q2).trans (h.1 q q1 q2), fun j j1 j2 => (h'.2.1 j j1 j2).trans (h.2.1 j j1 j2), h'.2.2.trans h.2.2⟩
theorem both_word (v : Int32) (h : BB L c m) (hn : L + 4 ≤ 600) : ∃ c' m', f_X5_appendWord c 1 v = some c' ∧ f_X10_appendInt m 0 v = some m' ∧ BB (L + 4) c' m' ∧ FcA c c' ∧ FmA m m' := by
  obtain ⟨h1, h2, h3⟩ := h
  obtain ⟨c', e1, e2, e3, e4, e5, e6⟩ := c_word (v := v) h1 hn
  obtain ⟨m', g1, g2, g3, g4, g5, g6⟩ := m_word (v := v) h2 hn
  refine ⟨c', m', e1, g1, ⟨e2, g2, fun j hj => ?_⟩, ⟨e4, e5, e6⟩, ⟨g4, fun j j1 j2 => g5 j j2, g6⟩⟩
  rw [e3 j, g3 j]
  by_cases q : L ≤ j ∧ j < L + 4
  · rw [if_pos q, if_pos q]; exact ⟨rfl, _, rfl⟩
  · rw [if_neg q, if_neg q]; exact h3 j (by omega)
theorem q_bufferLength (h : BufR c m) : QS (some (f_X9_bufferLength c 0)) (f_X10_bufferLength m 0) m := by
  obtain ⟨L, h0, h1, h2, h3⟩ := h
  refine ⟨nI L, ?_, ?_⟩
  · unfold f_X9_bufferLength
    show some (c.1 1 1) = _
    rw [h1]
  · unfold f_X10_bufferLength
    rw [Option.bind_some, wsI_s, upd_o (by omega), h2]
theorem q_append (h : BufR c m) : ∃ r c' m', f_X9_append c 0 a b d e f = some (r, c') ∧ f_X10_append m 0 a b d e f = some (r, m') ∧ BufR c' m' ∧ FcA c c' ∧ FmA m m' := by
  obtain ⟨L, h0, h1, h2, h3⟩ := h
  have f0 : FmA m (wsI m 0 0 0) := ⟨fun q q1 _ => wsI_o _ _ _ q1, fun j j1 _ => by rw [wsI_s, upd_o j1], rfl⟩
  have b0 : BB L c (wsI m 0 0 0) := ⟨h1, by rw [wsI_s, upd_o (by omega)]; exact h2, fun j hj => by rw [wsI_o _ _ _ (by omega)]; exact h3 j hj⟩
  unfold f_X9_append f_X10_append
  rw [Option.bind_some, b0.2.1]
  show ∃ r c' m', (if (600 : Int32) < c.1 1 1 + 20 then _ else _) = _ ∧ _
  rw [h1]
  have e20 : nI L + 20 = nI (L + 20) := nI_add L 20
  rw [e20]
  by_cases hl : 600 < L + 20
  · have hc : (600 : Int32) < nI (L + 20) := (n_lt (a := 600) (by omega) (by omega)).mpr hl
    rw [if_pos hc, if_pos hc]
    exact ⟨-1, c, _, rfl, rfl, ⟨L, h0, b0⟩, ⟨fun _ _ _ => rfl, fun _ _ => rfl, rfl⟩, f0⟩
  · have hc : ¬ (600 : Int32) < nI (L + 20) := fun z => hl ((n_lt (a := 600) (by omega) (by omega)).mp z)
    rw [if_neg hc, if_neg hc]
    obtain ⟨c1, m1, x1, y1, z1, u1, w1⟩ := both_word a b0 (by omega)
    obtain ⟨c2, m2, x2, y2, z2, u2, w2⟩ := both_word b z1 (by omega)
    obtain ⟨c3, m3, x3, y3, z3, u3, w3⟩ := both_word d z2 (by omega)
    obtain ⟨c4, m4, x4, y4, z4, u4, w4⟩ := both_word e z3 (by omega)
    obtain ⟨c5, m5, x5, y5, z5, u5, w5⟩ := both_word f z4 (by omega)
    refine ⟨nI (L + 4 + 4 + 4 + 4 + 4), c5, m5, ?_, ?_, ⟨_, by omega, z5⟩, (((u1.trans u2).trans u3).trans u4).trans u5, ((((f0.trans w1).trans w2).trans w3).trans w4).trans w5⟩
    · show Option.bind (f_X5_appendWord c 1 a) (fun w2 => Option.bind (f_X5_appendWord w2 1 b) (fun w3 => Option.bind (f_X5_appendWord w3 1 d) (fun w4 => Option.bind (f_X5_appendWord w4 1 e) (fun w5 => Option.bind (f_X5_appendWord w5 1 f) (fun w6 => some (w6.1 1 1, w6)))))) = _
      rw [x1, Option.bind_some, x2, Option.bind_some, x3, Option.bind_some, x4, Option.bind_some, x5, Option.bind_some, z5.1]
    · rw [y1, Option.bind_some, y2, Option.bind_some, y3, Option.bind_some, y4, Option.bind_some, y5, Option.bind_some, z5.2.1]
end AQ
