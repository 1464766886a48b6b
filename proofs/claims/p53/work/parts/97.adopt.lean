/-! The reference adopts what it has read. -/
section AD
variable {m w : Wd} {a b h i j : Nat}
theorem m_adoptNames (ha : zln zM a = 2 * h) (hh : h < 100) : ∃ m', f_X10_adoptNames m a = some m' ∧ m'.1 = m.1 ∧ (∀ q, q ≠ a → m'.2.1 q = m.2.1 q) ∧ m'.2.2 = m.2.2 ∧ ∀ j, j < h → m'.2.1 a j = m.2.1 a (h + j) := by
  suffices g : wp (f_X10_adoptNames m a) (fun m' => m'.1 = m.1 ∧ (∀ q, q ≠ a → m'.2.1 q = m.2.1 q) ∧ m'.2.2 = m.2.2 ∧ ∀ j, j < h → m'.2.1 a j = m.2.1 a (h + j)) from g
  have e : jdiv (nI (zln zM a)) (2 : Int32) = nI h := by
    rw [ha]
    have e : jdiv (nI (2 * h)) (nI 2) = nI (2 * h / 2) := pk_div (d := 2) (by omega) (by omega) (by omega)
    show jdiv (nI (2 * h)) (nI 2) = _
    rw [e, show 2 * h / 2 = h by omega]
  unfold f_X10_adoptNames
  rw [wp_bind]
  refine wp_mono (lp_inv (fun i s => s.1 = nI i ∧ s.2.1 = m.1 ∧ (∀ q, q ≠ a → s.2.2.1 q = m.2.1 q) ∧ s.2.2.2 = m.2.2 ∧ (∀ j, j < i → s.2.2.1 a j = m.2.1 a (h + j)) ∧ ∀ j, i ≤ j → s.2.2.1 a j = m.2.1 a j) (fun m' => m'.1 = m.1 ∧ (∀ q, q ≠ a → m'.2.1 q = m.2.1 q) ∧ m'.2.2 = m.2.2 ∧ ∀ j, j < h → m'.2.1 a j = m.2.1 a (h + j)) h ?_ ?_ (by unfold NF; omega) ⟨rfl, rfl, fun _ _ => rfl, rfl, fun j hj => by omega, fun _ _ => rfl⟩) (fun r q => wp_some.mpr q)
  · rintro i ⟨x, w⟩ hi ⟨h1, h2, h3, h4, h5, h6⟩
    dsimp only at h1 h2 h3 h4 h5 h6
    subst h1
    unfold b_X10_adoptNames_1
    dsimp only
    rw [e, if_pos ((n_lt (by omega) (by omega)).mpr hi), nI_add, rdL_M (by rw [ha]; omega), Option.bind_some, wrL_M (by rw [ha]; omega), Option.bind_some, wp_some]
    refine ⟨nI_1 i, h2, fun q hq => by dsimp only; rw [wsL_o _ _ _ hq]; exact h3 q hq, h4, fun j hj => ?_, fun j hj => ?_⟩
    · dsimp only
      rw [wsL_s]
      by_cases z : j = i
      · rw [z, updL_s]; exact h6 _ (by omega)
      · rw [updL_o z]; exact h5 j (by omega)
    · dsimp only
      rw [wsL_s, updL_o (by omega)]; exact h6 j (by omega)
  · rintro ⟨x, w⟩ ⟨h1, h2, h3, h4, h5, h6⟩
    dsimp only at h1 h2 h3 h4 h5 h6
    subst h1
    unfold b_X10_adoptNames_1
    dsimp only
    rw [e, if_neg (fun z => Nat.lt_irrefl _ ((n_lt (by omega) (by omega)).mp z)), wp_some]
    exact ⟨h2, h3, h4, h5⟩
theorem m_adopt1 : wp (lp (b_X10_adopt_1 0) NF ((0 : Int32), m)) (fun m' => (∀ q, q ≠ 8 → q ≠ 9 → m'.1 q = m.1 q) ∧ m'.2 = m.2 ∧ ∀ j, j < 10 → m'.1 8 j = m.1 8 (10 + j) ∧ m'.1 9 j = m.1 9 (10 + j)) := by
  refine lp_inv (fun i (s : Int32 × Wd) => s.1 = nI i ∧ (∀ q, q ≠ 8 → q ≠ 9 → s.2.1 q = m.1 q) ∧ s.2.2 = m.2 ∧ (∀ j, j < i → s.2.1 8 j = m.1 8 (10 + j) ∧ s.2.1 9 j = m.1 9 (10 + j)) ∧ ∀ j, i ≤ j → s.2.1 8 j = m.1 8 j ∧ s.2.1 9 j = m.1 9 j) (fun m' : Wd => (∀ q, q ≠ 8 → q ≠ 9 → m'.1 q = m.1 q) ∧ m'.2 = m.2 ∧ ∀ j, j < 10 → m'.1 8 j = m.1 8 (10 + j) ∧ m'.1 9 j = m.1 9 (10 + j)) 10 ?_ ?_ (by decide) ⟨rfl, fun _ _ _ => rfl, rfl, fun j hj => by omega, fun _ _ => ⟨rfl, rfl⟩⟩
  · rintro i ⟨x, w⟩ hi ⟨h1, h2, h3, h4, h5⟩
    dsimp only at h1 h2 h3 h4 h5
    subst h1
    unfold b_X10_adopt_1
    dsimp only
    have a10 : (10 : Int32) + nI i = nI (10 + i) := nI_add 10 i
    rw [if_pos (show nI i < (10 : Int32) from (n_lt (b := 10) (by omega) (by omega)).mpr hi), a10]
    show wp (Option.bind (rdI zM w 8 (nI (10 + i))) fun x13 => Option.bind (wrI zM w 8 (nI i) x13) fun w14 => Option.bind (rdI zM w14 9 (nI (10 + i))) fun x15 => Option.bind (wrI zM w14 9 (nI i) x15) _) _
    rw [rdI_M (show 10 + i < 20 by omega), Option.bind_some, wrI_M (show i < 20 by omega), Option.bind_some, rdI_M (show 10 + i < 20 by omega), Option.bind_some, wrI_M (show i < 20 by omega), Option.bind_some, wp_some]
    refine ⟨nI_1 i, fun q q1 q2 => by dsimp only; rw [wsI_o _ _ _ q2, wsI_o _ _ _ q1]; exact h2 q q1 q2, h3, fun j hj => ?_, fun j hj => ?_⟩
    · dsimp only
      rw [wsI_o _ _ _ (by omega), wsI_s, wsI_s, wsI_o _ _ _ (by omega)]
      by_cases z : j = i
      · rw [z, upd_s, upd_s]; exact h5 (10 + i) (by omega)
      · rw [upd_o z, upd_o z]; exact h4 j (by omega)
    · dsimp only
      rw [wsI_o _ _ _ (by omega), wsI_s, wsI_s, wsI_o _ _ _ (by omega), upd_o (by omega), upd_o (by omega)]; exact h5 j (by omega)
  · rintro ⟨x, w⟩ ⟨h1, h2, h3, h4, h5⟩
    dsimp only at h1 h2 h3 h4 h5
    subst h1
    unfold b_X10_adopt_1
    dsimp only
    rw [if_neg (show ¬ nI 10 < (10 : Int32) by decide), wp_some]
    exact ⟨h2, h3, h4⟩
theorem m_adopt2 : wp (lp (b_X10_adopt_2 0) NF ((0 : Int32), m)) (fun m' => (∀ q, q ≠ 10 → m'.1 q = m.1 q) ∧ m'.2 = m.2 ∧ ∀ j, j < 122 → m'.1 10 j = m.1 11 j) := by
  refine lp_inv (fun i (s : Int32 × Wd) => s.1 = nI i ∧ (∀ q, q ≠ 10 → s.2.1 q = m.1 q) ∧ s.2.2 = m.2 ∧ (∀ j, j < i → s.2.1 10 j = m.1 11 j)) (fun m' : Wd => (∀ q, q ≠ 10 → m'.1 q = m.1 q) ∧ m'.2 = m.2 ∧ ∀ j, j < 122 → m'.1 10 j = m.1 11 j) 122 ?_ ?_ (by decide) ⟨rfl, fun _ _ => rfl, rfl, fun j hj => by omega⟩
  · rintro i ⟨x, w⟩ hi ⟨h1, h2, h3, h4⟩
    dsimp only at h1 h2 h3 h4
    subst h1
    unfold b_X10_adopt_2
    dsimp only
    rw [if_pos (show nI i < (122 : Int32) from (n_lt (b := 122) (by omega) (by omega)).mpr hi)]
    show wp (Option.bind (rdI zM w 11 (nI i)) fun x20 => Option.bind (wrI zM w 10 (nI i) x20) _) _
    rw [rdI_M (show i < 122 from hi), Option.bind_some, wrI_M (show i < 122 from hi), Option.bind_some, wp_some]
    refine ⟨nI_1 i, fun q q1 => by dsimp only; rw [wsI_o _ _ _ q1]; exact h2 q q1, h3, fun j hj => ?_⟩
    dsimp only
    rw [wsI_s]
    by_cases z : j = i
    · rw [z, upd_s, h2 11 (by omega)]
    · rw [upd_o z]; exact h4 j (by omega)
  · rintro ⟨x, w⟩ ⟨h1, h2, h3, h4⟩
    dsimp only at h1 h2 h3 h4
    subst h1
    unfold b_X10_adopt_2
    dsimp only
    rw [if_neg (show ¬ nI 122 < (122 : Int32) by decide), wp_some]
    exact ⟨h2, h3, h4⟩
/-- what adopting comes to -/
def AdR (m m' : Wd) : Prop := (∀ p, p ≠ 0 → ¬ (2 ≤ p ∧ p ≤ 4) → ¬ (8 ≤ p ∧ p ≤ 10) → p ≠ 14 → m'.1 p = m.1 p) ∧ (∀ j, j ≠ 21 → m'.1 0 j = m.1 0 j) ∧ m'.1 0 21 = 0 ∧ (m'.1 2 0 = m.1 2 1 ∧ m'.1 3 0 = m.1 3 1 ∧ m'.1 4 0 = m.1 4 1) ∧ (∀ j, j < 10 → m'.1 8 j = m.1 8 (10 + j) ∧ m'.1 9 j = m.1 9 (10 + j)) ∧ (∀ j, j < 122 → m'.1 10 j = m.1 11 j) ∧ (m'.1 14 0 = bI false ∧ m'.1 14 1 = bI false) ∧ (∀ j, j < 16 → m'.2.1 5 j = m.2.1 5 (16 + j)) ∧ (∀ j, j < 10 → m'.2.1 6 j = m.2.1 6 (10 + j)) ∧ (∀ p, ¬ (5 ≤ p ∧ p ≤ 7) → m'.2.1 p = m.2.1 p) ∧ m'.2.2 = m.2.2
theorem m_adopt : ∃ m', f_X10_adopt m 0 = some m' ∧ AdR m m' := by
  unfold f_X10_adopt
  show ∃ m', Option.bind (rdI zM m 2 (nI 1)) (fun x1 => Option.bind (wrI zM m 2 (nI 0) x1) (fun w2 => Option.bind (rdI zM w2 3 (nI 1)) (fun x3 => Option.bind (wrI zM w2 3 (nI 0) x3) (fun w4 => Option.bind (rdI zM w4 4 (nI 1)) (fun x5 => Option.bind (wrI zM w4 4 (nI 0) x5) (fun w6 => Option.bind (f_X10_adoptNames w6 5) (fun w7 => Option.bind (f_X10_adoptNames w7 6) (fun w8 => Option.bind (f_X10_adoptNames w8 7) (fun w9 => Option.bind (lp (b_X10_adopt_1 0) NF ((0 : Int32), w9)) (fun r11 => Option.bind (lp (b_X10_adopt_2 0) NF ((0 : Int32), r11)) (fun r18 => Option.bind (some (wsI r18 0 21 0)) (fun w22 => Option.bind (wrI zM w22 14 (nI 0) (bI false)) (fun w23 => Option.bind (wrI zM w23 14 (nI 1) (bI false)) (fun w24 => some w24)))))))))))))) = _ ∧ _
  rw [rdI_M (show 1 < 2 by omega), Option.bind_some, wrI_M (show 0 < 2 by omega), Option.bind_some, rdI_M (show 1 < 2 by omega), Option.bind_some, wrI_M (show 0 < 2 by omega), Option.bind_some, rdI_M (show 1 < 2 by omega), Option.bind_some, wrI_M (show 0 < 2 by omega), Option.bind_some]
  generalize hw : wsI (wsI (wsI m 2 0 (m.1 2 1)) 3 0 ((wsI m 2 0 (m.1 2 1)).1 3 1)) 4 0 ((wsI (wsI m 2 0 (m.1 2 1)) 3 0 ((wsI m 2 0 (m.1 2 1)).1 3 1)).1 4 1) = w6
  have a1 : ∀ p, ¬ (2 ≤ p ∧ p ≤ 4) → w6.1 p = m.1 p := fun p hp => by rw [← hw, wsI_o _ _ _ (by omega), wsI_o _ _ _ (by omega), wsI_o _ _ _ (by omega)]
  have a2 : w6.2 = m.2 := by rw [← hw]; rfl
  have a3 : w6.1 2 0 = m.1 2 1 := by rw [← hw, wsI_o _ _ _ (by omega), wsI_o _ _ _ (by omega), wsI_s, upd_s]
  have a4 : w6.1 3 0 = m.1 3 1 := by rw [← hw, wsI_o _ _ _ (by omega), wsI_s, upd_s, wsI_o _ _ _ (by omega)]
  have a5 : w6.1 4 0 = m.1 4 1 := by rw [← hw, wsI_s, upd_s, wsI_o _ _ _ (by omega), wsI_o _ _ _ (by omega)]
  obtain ⟨w7, b1, b2, b3, b4, b5⟩ := m_adoptNames (m := w6) (a := 5) (h := 16) rfl (by omega)
  obtain ⟨w8, c1, c2, c3, c4, c5⟩ := m_adoptNames (m := w7) (a := 6) (h := 10) rfl (by omega)
  obtain ⟨w9, d1, d2, d3, d4, d5⟩ := m_adoptNames (m := w8) (a := 7) (h := 4) rfl (by omega)
  obtain ⟨w10, e1, e2, e3, e4⟩ := m_adopt1 (m := w9)
  obtain ⟨w11, f1, f2, f3, f4⟩ := m_adopt2 (m := w10)
  rw [b1, Option.bind_some, c1, Option.bind_some, d1, Option.bind_some, e1, Option.bind_some, f1, Option.bind_some, Option.bind_some, wrI_M (show 0 < 2 by omega), Option.bind_some, wrI_M (show 1 < 2 by omega), Option.bind_some]
  refine ⟨_, rfl, fun p p1 p2 p3 p4 => ?_, fun j hj => ?_, ?_, ⟨?_, ?_, ?_⟩, fun j hj => ?_, fun j hj => ?_, ⟨?_, ?_⟩, fun j hj => ?_, fun j hj => ?_, fun p hp => ?_, ?_⟩
  · rw [wsI_o _ _ _ p4, wsI_o _ _ _ p4, wsI_o _ _ _ p1, f2 p (by omega), e2 p (by omega) (by omega), d2, c2, b2, a1 p p2]
  · rw [wsI_o _ _ _ (by omega), wsI_o _ _ _ (by omega), wsI_s, upd_o hj, f2 0 (by omega), e2 0 (by omega) (by omega), d2, c2, b2, a1 0 (by omega)]
  · rw [wsI_o _ _ _ (by omega), wsI_o _ _ _ (by omega), wsI_s, upd_s]
  · rw [wsI_o _ _ _ (by omega), wsI_o _ _ _ (by omega), wsI_o _ _ _ (by omega), f2 2 (by omega), e2 2 (by omega) (by omega), d2, c2, b2, a3]
  · rw [wsI_o _ _ _ (by omega), wsI_o _ _ _ (by omega), wsI_o _ _ _ (by omega), f2 3 (by omega), e2 3 (by omega) (by omega), d2, c2, b2, a4]
  · rw [wsI_o _ _ _ (by omega), wsI_o _ _ _ (by omega), wsI_o _ _ _ (by omega), f2 4 (by omega), e2 4 (by omega) (by omega), d2, c2, b2, a5]
  · rw [wsI_o _ _ _ (by omega), wsI_o _ _ _ (by omega), wsI_o _ _ _ (by omega), wsI_o _ _ _ (by omega), wsI_o _ _ _ (by omega), wsI_o _ _ _ (by omega), f2 8 (by omega), f2 9 (by omega), (e4 j hj).1, (e4 j hj).2, d2, c2, b2, a1 8 (by omega), a1 9 (by omega)]
    exact ⟨rfl, rfl⟩
  · rw [wsI_o _ _ _ (by omega), wsI_o _ _ _ (by omega), wsI_o _ _ _ (by omega), f4 j hj, e2 11 (by omega) (by omega), d2, c2, b2, a1 11 (by omega)]
  · rw [wsI_s, upd_o (by omega), wsI_s, upd_s]
  · rw [wsI_s, upd_s]
  · show w11.2.1 5 j = _
    rw [f3, e3, d3 5 (by omega), c3 5 (by omega), b5 j hj, a2]
  · show w11.2.1 6 j = _
    rw [f3, e3, d3 6 (by omega), c5 j hj, b3 6 (by omega), a2]
  · show w11.2.1 p = _
    rw [f3, e3, d3 p (by omega), c3 p (by omega), b3 p (by omega), a2]
  · show w11.2.2 = _
    rw [f3, e3, d4, c4, b4, a2]
end AD
