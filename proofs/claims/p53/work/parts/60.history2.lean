/-! The history: a change is kept, a change is taken back. -/
section HJ
variable {P : PK} {K K' : CK} {c m w : Wd} {d nx j x i : Nat} {hs : Nat → CK} {ch : Nat → Int32} {v y : Int32} {f32 f33 m12 g32 g33 g12 : Nat → Int32} {m21 g21 : Int32}
def dUp (d : Nat) : Nat := if d = 12 then 12 else d + 1
theorem m_keep (h : HR P K f32 f33 (m.1 12) (m.1 0 21) d nx hs ch) (hL : RLm m K) (hK : CWF P K) : ∃ m', f_X10_keepState m 0 = some m' ∧ (∀ q, q ≠ 0 → q ≠ 12 → m'.1 q = m.1 q) ∧ (∀ j, j ≠ 21 → m'.1 0 j = m.1 0 j) ∧ m'.2 = m.2 ∧ m'.1 0 21 = nI (dUp d) ∧
    ∀ j, j < dUp d → RLb (m'.1 12) (122 * j) (if d = 12 then hs (j + 1) else hs j) := by
  obtain ⟨h1, h2, h3, h4, h5, h6, h7⟩ := h
  unfold f_X10_keepState dUp
  by_cases e : d = 12
  · subst e
    rw [if_pos (show m.1 0 21 = (12 : Int32) by rw [h5]; rfl), if_pos rfl]
    obtain ⟨s, s1, s2, s3, s4⟩ := m_shift (m := m)
    have k21 : (wsI s 0 21 (s.1 0 21 - 1)).1 0 21 = nI 11 := by
      rw [wsI_s, upd_s, s2 0 (by omega), h5]; rfl
    obtain ⟨t, t1, t2, t3, t4, t5⟩ := m_keepBlock (m := wsI s 0 21 (s.1 0 21 - 1)) k21 (by omega)
    refine ⟨_, by rw [s1, Option.bind_some, Option.bind_some, Option.bind_some, t1, Option.bind_some]; rfl, fun q q1 q2 => ?_, fun j hj => ?_, ?_, ?_, fun j hj => ?_⟩
    · rw [wsI_o _ _ _ q1, t2 q q2, wsI_o _ _ _ q1]; exact s2 q q2
    · rw [wsI_s, upd_o hj, t2 0 (by omega), wsI_s, upd_o hj, s2 0 (by omega)]
    · show t.2 = _
      rw [t3]; exact s3
    · rw [wsI_s, upd_s, t2 0 (by omega), k21]; rfl
    · rw [wsI_o _ _ _ (by omega), if_pos rfl]
      by_cases ej : j = 11
      · subst ej
        rw [h6]
        refine (RLm_b.mp hL).copy hK.1 fun x hx => ?_
        rw [t4 x hx, wsI_o _ _ _ (by omega), s2 10 (by omega), Nat.zero_add]
      · obtain ⟨g1, g2, -⟩ := h7 (j + 1) (by omega)
        refine g2.copy g1.1 fun x hx => ?_
        rw [t5 _ (by omega), wsI_o _ _ _ (by omega), s4 _ (by omega), show 122 * j + x + 122 = 122 * (j + 1) + x by omega]
  · rw [if_neg (show ¬ m.1 0 21 = (12 : Int32) from fun z => e ((n_eq (b := 12) (by omega) (by omega)).mp (by rw [← h5]; exact z))), if_neg e]
    obtain ⟨t, t1, t2, t3, t4, t5⟩ := m_keepBlock (m := m) h5 (by omega)
    refine ⟨_, by rw [Option.bind_some, t1, Option.bind_some]; rfl, fun q q1 q2 => ?_, fun j hj => ?_, ?_, ?_, fun j hj => ?_⟩
    · rw [wsI_o _ _ _ q1]; exact t2 q q2
    · rw [wsI_s, upd_o hj, t2 0 (by omega)]
    · exact t3
    · rw [wsI_s, upd_s, t2 0 (by omega), h5]; exact nI_1 d
    · rw [wsI_o _ _ _ (by omega), if_neg e]
      by_cases ej : j = d
      · subst ej
        rw [h6]
        refine (RLm_b.mp hL).copy hK.1 fun x hx => ?_
        rw [t4 x hx, Nat.zero_add]
      · obtain ⟨g1, g2, -⟩ := h7 j (by omega)
        refine g2.copy g1.1 fun x hx => ?_
        rw [t5 _ (by omega)]
theorem HR.push (h : HR P K f32 f33 m12 m21 d nx hs ch) (hK : CWF P K) (hc : ChangeTo K y K') (e1 : g32 1 = nI ((nx + 1) % 12)) (e2 : g32 2 = nI (dUp d)) (e3 : g33 = upd f33 nx y) (e4 : g21 = nI (dUp d)) (e5 : ∀ j, j < dUp d → RLb g12 (122 * j) (if d = 12 then hs (j + 1) else hs j)) : HistR P K' g32 g33 g12 g21 := by
  obtain ⟨h1, h2, h3, h4, h5, h6, h7⟩ := h
  by_cases e : d = 12
  · subst e
    have eu : dUp 12 = 12 := rfl
    rw [eu] at e2 e4 e5
    refine ⟨12, (nx + 1) % 12, fun j => if j < 12 then hs (j + 1) else K', fun j => if j = 11 then y else ch (j + 1), by omega, by omega, e1, e2, e4, if_neg (by omega), fun j hj => ?_⟩
    have a1 : (if j < 12 then hs (j + 1) else K') = hs (j + 1) := if_pos hj
    have a5 := e5 j hj
    rw [if_pos rfl] at a5
    show CWF P (if j < 12 then hs (j + 1) else K') ∧ RLb g12 (122 * j) (if j < 12 then hs (j + 1) else K') ∧ ChangeTo (if j < 12 then hs (j + 1) else K') (if j = 11 then y else ch (j + 1)) (if j + 1 < 12 then hs (j + 1 + 1) else K') ∧ g33 (((nx + 1) % 12 + 12 - (12 - j)) % 12) = (if j = 11 then y else ch (j + 1))
    rw [a1]
    by_cases ej : j = 11
    · subst ej
      rw [if_pos rfl, if_neg (by omega), e3, show ((nx + 1) % 12 + 12 - (12 - 11)) % 12 = nx by omega, upd_s, h6]
      exact ⟨hK, by rw [← h6]; exact a5, hc, rfl⟩
    · obtain ⟨g1, g2, g3, g4⟩ := h7 (j + 1) (by omega)
      rw [if_neg ej, if_pos (by omega), e3, upd_o (by omega), ← g4]
      refine ⟨g1, a5, by rw [g4]; exact g3, ?_⟩
      congr 1
      omega
  · have eu : dUp d = d + 1 := if_neg e
    rw [eu] at e2 e4 e5
    refine ⟨d + 1, (nx + 1) % 12, fun j => if j < d + 1 then hs j else K', fun j => if j = d then y else ch j, by omega, by omega, e1, e2, e4, if_neg (by omega), fun j hj => ?_⟩
    have a1 : (if j < d + 1 then hs j else K') = hs j := if_pos hj
    have a5 := e5 j hj
    rw [if_neg e] at a5
    show CWF P (if j < d + 1 then hs j else K') ∧ RLb g12 (122 * j) (if j < d + 1 then hs j else K') ∧ ChangeTo (if j < d + 1 then hs j else K') (if j = d then y else ch j) (if j + 1 < d + 1 then hs (j + 1) else K') ∧ g33 (((nx + 1) % 12 + 12 - (d + 1 - j)) % 12) = (if j = d then y else ch j)
    rw [a1]
    by_cases ej : j = d
    · subst ej
      rw [if_pos rfl, if_neg (by omega), e3, show ((nx + 1) % 12 + 12 - (j + 1 - j)) % 12 = nx by omega, upd_s, h6]
      exact ⟨hK, by rw [← h6]; exact a5, hc, rfl⟩
    · obtain ⟨g1, g2, g3, g4⟩ := h7 j (by omega)
      rw [if_neg ej, if_pos (by omega), e3, upd_o (by omega), ← g4]
      refine ⟨g1, a5, by rw [g4]; exact g3, ?_⟩
      congr 1
      omega
theorem HR.pop (h : HR P K f32 f33 m12 m21 d nx hs ch) (hd : 0 < d) (e1 : g32 1 = nI ((nx + 11) % 12)) (e2 : g32 2 = nI (d - 1)) (e4 : g21 = nI (d - 1)) : HistR P (hs (d - 1)) g32 f33 m12 g21 ∧ f33 ((nx + 11) % 12) = ch (d - 1) ∧ ChangeTo (hs (d - 1)) (ch (d - 1)) K ∧ CWF P (hs (d - 1)) ∧ RLb m12 (122 * (d - 1)) (hs (d - 1)) := by
  obtain ⟨h1, h2, h3, h4, h5, h6, h7⟩ := h
  obtain ⟨g1, g2, g3, g4⟩ := h7 (d - 1) (by omega)
  rw [show d - 1 + 1 = d by omega, h6] at g3
  refine ⟨⟨d - 1, (nx + 11) % 12, hs, ch, by omega, by omega, e1, e2, e4, rfl, fun j hj => ?_⟩, ?_, g3, g1, g2⟩
  · obtain ⟨k1, k2, k3, k4⟩ := h7 j (by omega)
    refine ⟨k1, k2, k3, ?_⟩
    rw [← k4]
    congr 1
    omega
  · rw [← g4]
    congr 1
    omega
theorem HistR.clear (e1 : g32 1 = 0) (e2 : g32 2 = 0) (e4 : g21 = 0) : HistR P K g32 g33 g12 g21 := ⟨0, 0, fun _ => K, fun _ => 0, by omega, by omega, e1, e2, e4, rfl, fun j hj => by omega⟩
theorem HistR.keep {f32' f33' m12' : Nat → Int32} {m21' : Int32} (h : HistR P K f32 f33 m12 m21) (e1 : f32' = f32) (e2 : f33' = f33) (e3 : m12' = m12) (e4 : m21' = m21) : HistR P K f32' f33' m12' m21' := by
  subst e1; subst e2; subst e3; subst e4; exact h
end HJ
