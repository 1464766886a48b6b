/-! Calls that change the constraints: settle, setEnabled. -/
/-- what such a call leaves alone -/
def FcX (p : Nat) (c c' : Wd) : Prop := (∀ q, q ≠ 0 → ¬ (p + 9 ≤ q ∧ q ≤ p + 13) → ¬ (32 ≤ q ∧ q ≤ 33) → ¬ (45 ≤ q ∧ q ≤ 53) → c'.1 q = c.1 q) ∧ (∀ j, j ≠ 9 → j ≠ 10 → c'.1 0 j = c.1 0 j) ∧ c'.2 = c.2
def FmX (m m' : Wd) : Prop := (∀ q, q ≠ 0 → q ≠ 10 → q ≠ 12 → ¬ (15 ≤ q ∧ q ≤ 17) → m'.1 q = m.1 q) ∧ (∀ j, j ≠ 0 → j ≠ 21 → j ≠ 27 → m'.1 0 j = m.1 0 j) ∧ m'.2 = m.2
/-- base relation and history -/
def Core (p : Nat) (P : PK) (K : CK) (c m : Wd) : Prop := Base p P K c m ∧ HistR P K (c.1 32) (c.1 33) (m.1 12) (m.1 0 21)
/-- both caches are marked stale -/
def Stale (c : Wd) : Prop := c.1 0 9 = bI true ∧ c.1 0 10 = bI true
section CH
variable {p : Nat} {P : PK} {K K' : CK} {c m : Wd} {v y : Int32} {i : Nat} {b : Bool}
theorem c_settle (hp : PC p) (h2 : c.2.2 0 1 = p) (hP : RPc c p P) (hL : RLc c (p + 9) K) (hPw : PWF P) (hKw : CWF P K) : ∃ c', f_X9_settle c 0 = some c' ∧ SolC P K c' ∧ (∀ q, q ≠ 0 → ¬ (45 ≤ q ∧ q ≤ 53) → c'.1 q = c.1 q) ∧ (∀ j, j ≠ 9 → j ≠ 10 → c'.1 0 j = c.1 0 j) ∧ c'.2 = c.2 ∧ Stale c' := by
  obtain ⟨d, e1, e2, e3, e4⟩ := s_solve hp hP hL hPw hKw
  unfold f_X9_settle
  have hr : rdD zC c 0 1 6 = some p := by unfold rdD; rw [h2, if_pos hp.ct]
  rw [hr, Option.bind_some]
  show ∃ c', Option.bind (f_X7_solve c 45 p) _ = _ ∧ _
  rw [e1, Option.bind_some, Option.bind_some, Option.bind_some]
  refine ⟨_, rfl, e2.keep fun q q1 q2 => by rw [wsI_o _ _ _ (by omega), wsI_o _ _ _ (by omega)], fun q q1 q2 => by rw [wsI_o _ _ _ q1, wsI_o _ _ _ q1]; exact e3 q q2, fun j j1 j2 => by rw [wsI_s, upd_o j2, wsI_s, upd_o j1, e3 0 (by omega)], e4, ?_, ?_⟩
  · rw [wsI_s, upd_o (by omega), wsI_s, upd_s]
  · rw [wsI_s, upd_s]
theorem tog_ok (hK : CWF P K) (hi : i < nc K) : CWF P (setE K (en K ^^^ jshl 1 (nI i))) := by
  have h30 := hK.1
  refine ⟨hK.1, fun j hj => ?_, hK.2.2⟩
  have hj2 : bt (en K ^^^ jshl 1 (nI i)) j = true := hj
  have h32 := b32 hj2
  rw [b_xor, bt_bit (by omega) h32] at hj2
  show j < nc K
  by_cases q : j = i
  · omega
  · rw [decide_eq_false q, Bool.xor_false] at hj2
    exact hK.2.1 j hj2
theorem tog_change (hi : i < nc K) : ChangeTo K (nI i) (setE K (en K ^^^ jshl 1 (nI i))) := Or.inr ⟨i, hi, rfl, rfl, rfl, fun _ _ => ⟨rfl, rfl, rfl, rfl⟩⟩
theorem q_setEnabled (h : Core p P K c m) : ∃ r K' c' m', f_X9_setEnabled c 0 v b = some (r, c') ∧ f_X10_setEnabled m 0 v b = some (r, m') ∧ Core p P K' c' m' ∧ FcX p c c' ∧ FmX m m' ∧ ((K' = K ∧ c' = c) ∨ Stale c') := by
  obtain ⟨hb, hh⟩ := h
  have hp := hb.1
  have hP := hb.2.2.2.2.2.2.1
  have hK := hb.2.2.2.2.2.2.2.1
  have h30 := hK.1
  have hpp : p = 4 ∨ p = 18 := hp
  unfold f_X9_setEnabled f_X10_setEnabled
  rw [c_isConstraint hb, Option.bind_some, Option.bind_some, m_isConstraint hb.m0, Option.bind_some, hb.rp, Option.bind_some]
  have same : ∃ r K' c' m', (some (false, c) : Option (Bool × Wd)) = some (r, c') ∧ (some (false, wsI m 0 0 0) : Option (Bool × Wd)) = some (r, m') ∧ Core p P K' c' m' ∧ FcX p c c' ∧ FmX m m' ∧ ((K' = K ∧ c' = c) ∨ Stale c') :=
    ⟨false, K, c, wsI m 0 0 0, rfl, rfl, ⟨hb.m0, hh.keep rfl rfl (wsI_o _ _ _ (by omega)) (by rw [wsI_s, upd_o (by omega)])⟩, ⟨fun _ _ _ _ _ => rfl, fun _ _ _ => rfl, rfl⟩, ⟨fun q q1 _ _ _ => wsI_o _ _ _ q1, fun j j1 _ _ => by rw [wsI_s, upd_o j1], rfl⟩, Or.inl ⟨rfl, rfl⟩⟩
  cases e : inR v (nc K) with
  | false =>
    rw [if_neg (by decide), if_neg (by decide), Option.bind_some, if_pos rfl, Option.bind_some, if_pos rfl]
    exact same
  | true =>
    obtain ⟨i, hi, rfl⟩ := inR_t (by omega) e
    rw [if_pos rfl, if_pos rfl, c_isEnabled hb (by omega), m_isEn hb.m0 (by omega), Option.bind_some]
    by_cases eb : bt (en K) i = b
    · rw [if_pos eb, Option.bind_some, if_pos rfl, Option.bind_some, if_pos eb, Option.bind_some, if_pos rfl]
      exact same
    · rw [if_neg eb, Option.bind_some, if_neg (by decide), Option.bind_some, if_neg eb, Option.bind_some, if_neg (by decide), zp6 hp]
      have hK' := tog_ok hK hi
      have hch := tog_change hi
      generalize hKK : setE K (en K ^^^ jshl 1 (nI i)) = K' at hK' hch
      -- the class: toggle, push, settle
      obtain ⟨d, nx, hs, ch, hr⟩ := hh
      have hr' := hr
      obtain ⟨r1, r2, r3, r4, r5, r6, r7⟩ := hr'
      have t1 : f_X0_toggle c (p + 9) (nI i) = some (wsI c (p + 9) 5 (c.1 (p + 9) 5 ^^^ jshl 1 (nI i))) := rfl
      generalize hc1 : wsI c (p + 9) 5 (c.1 (p + 9) 5 ^^^ jshl 1 (nI i)) = c1 at t1
      have k1 : ∀ q, q ≠ p + 9 → c1.1 q = c.1 q := fun q hq => by rw [← hc1, wsI_o _ _ _ hq]
      have k1s : c1.2 = c.2 := by rw [← hc1]; rfl
      have k19 : c1.1 (p + 9) = upd (c.1 (p + 9)) 5 (c.1 (p + 9) 5 ^^^ jshl 1 (nI i)) := by rw [← hc1, wsI_s]
      obtain ⟨c2, p1, p2, p3, p4, p5, p6⟩ := c_push (c := c1) (y := nI i) (nx := nx) (d := d) (by rw [k1 32 (by omega)]; exact r3) (by rw [k1 32 (by omega)]; exact r4) r2 r1
      have hP2 : RPc c2 p P := by
        have q := hb.2.2.1
        unfold RPc at q ⊢
        rw [p2 _ (by omega) (by omega), p2 _ (by omega) (by omega), p2 _ (by omega) (by omega), p2 p (by omega) (by omega), p2 _ (by omega) (by omega), p2 _ (by omega) (by omega), k1 _ (by omega), k1 _ (by omega), k1 _ (by omega), k1 p (by omega), k1 _ (by omega), k1 _ (by omega)]
        exact q
      have hL2 : RLc c2 (p + 9) K' := by
        have q := hb.2.2.2.1
        rw [← hKK]
        refine ⟨?_, ?_, fun x hx => ?_⟩
        · rw [p2 _ (by omega) (by omega), k19, upd_o (by omega)]; exact q.1
        · rw [p2 _ (by omega) (by omega), k19, upd_s, q.2.1]; rfl
        · rw [p2 _ (by omega) (by omega), p2 _ (by omega) (by omega), p2 _ (by omega) (by omega), p2 _ (by omega) (by omega), k1 _ (by omega), k1 _ (by omega), k1 _ (by omega), k1 _ (by omega)]
          exact q.2.2 x hx
      obtain ⟨c3, s1, s2, s3, s4, s5, s6⟩ := c_settle hp (by rw [p3, k1s]; exact hb.2.1) hP2 hL2 hP hK'
      -- the reference: keep the state, toggle, solve
      have hrm : HR P K (c.1 32) (c.1 33) ((wsI m 0 0 0).1 12) ((wsI m 0 0 0).1 0 21) d nx hs ch := by
        rw [wsI_o _ _ _ (by omega), wsI_s, upd_o (by omega)]; exact hr
      obtain ⟨m1, g1, g2, g3, g4, g5, g6⟩ := m_keep hrm hb.m0.2.2.2.2.2.1 hK
      have hL1 : RLm m1 K := hb.m0.2.2.2.2.2.1.keep (g2 10 (by omega) (by omega))
      generalize hm2 : wsI m1 10 1 (en K ^^^ jshl 1 (nI i)) = m2
      have j1 : ∀ q, q ≠ 10 → m2.1 q = m1.1 q := fun q hq => by rw [← hm2, wsI_o _ _ _ hq]
      have j10 : m2.1 10 = upd (m1.1 10) 1 (en K ^^^ jshl 1 (nI i)) := by rw [← hm2, wsI_s]
      have hPm2 : RPm m2 P := hb.m0.2.2.2.2.1.keep fun q q1 q2 => by rw [j1 q (by omega), g2 q (by omega) (by omega)]
      have hLm2 : RLm m2 K' := by
        rw [← hKK]
        refine ⟨?_, ?_, fun x hx => ?_⟩
        · rw [j10, upd_o (by omega)]; exact hL1.1
        · rw [j10, upd_s]; rfl
        · rw [j10, upd_o (by omega), upd_o (by omega), upd_o (by omega), upd_o (by omega)]; exact hL1.2.2 x hx
      obtain ⟨m3, y1, y2, y3, y4, y5⟩ := m_solve hPm2 hLm2 hP hK'
      have kp3 : keepP c3 c2 ∨ True := Or.inr trivial
      have hP3 : RPc c3 p P := by
        unfold RPc at hP2 ⊢
        rw [s3 _ (by omega) (by omega), s3 _ (by omega) (by omega), s3 _ (by omega) (by omega), s3 p (by omega) (by omega), s3 _ (by omega) (by omega), s3 _ (by omega) (by omega)]
        exact hP2
      have hL3 : RLc c3 (p + 9) K' := by
        unfold RLc at hL2 ⊢
        rw [s3 _ (by omega) (by omega), s3 _ (by omega) (by omega), s3 _ (by omega) (by omega), s3 _ (by omega) (by omega), s3 _ (by omega) (by omega)]
        exact hL2
      refine ⟨true, K', c3, m3, ?_, ?_, ⟨⟨hp, by rw [s5, p3, k1s]; exact hb.2.1, hP3, hL3, hPm2.keep fun q q1 q2 => y3 q (by omega) (by omega) (by omega) (by omega), hLm2.keep (y3 10 (by omega) (by omega) (by omega) (by omega)), hP, hK', s2, y2⟩, ?_⟩, ⟨fun q q1 q2 q3 q4 => ?_, fun j jj1 jj2 => ?_, ?_⟩, ⟨fun q q1 q2 q3 q4 => ?_, fun j jj1 jj2 jj3 => ?_, ?_⟩, Or.inr s6⟩
      · rw [t1, Option.bind_some]
        show Option.bind (f_X3_push c1 32 (nI i)) _ = _
        rw [p1, Option.bind_some, s1]; rfl
      · rw [g1, Option.bind_some]
        show Option.bind (rdI zM m1 10 (nI 1)) (fun x8 => Option.bind (wrI zM m1 10 (nI 1) (x8 ^^^ jshl 1 (nI i))) _) = _
        rw [rdI_M (show 1 < 122 by omega), hL1.2.1, Option.bind_some, wrI_M (show 1 < 122 by omega), Option.bind_some, hm2, y1]; rfl
      · refine hrm.push hK hch (g32 := c3.1 32) (g33 := c3.1 33) ?_ ?_ ?_ ?_ (fun j hj => ?_)
        · rw [s3 32 (by omega) (by omega)]; exact p5
        · rw [s3 32 (by omega) (by omega)]; exact p6
        · rw [s3 33 (by omega) (by omega), p4, k1 33 (by omega)]
        · rw [y4 21 (by omega), j1 0 (by omega)]; exact g5
        · rw [y3 12 (by omega) (by omega) (by omega) (by omega), j1 12 (by omega)]; exact g6 j hj
      · rw [s3 q q1 q4, p2 q (by omega) (by omega), k1 q (by omega)]
      · rw [s4 j jj1 jj2, p2 0 (by omega) (by omega), k1 0 (by omega)]
      · rw [s5, p3, k1s]
      · rw [y3 q q1 (by omega) (by omega) (by omega), j1 q q2, g2 q q1 q3, wsI_o _ _ _ q1]
      · rw [y4 j jj3, j1 0 (by omega), g3 j jj2, wsI_s, upd_o jj1]
      · rw [y5, ← hm2]
        show m1.2 = _
        rw [g4]; rfl
end CH
