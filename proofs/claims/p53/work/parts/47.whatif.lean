/-! Calls that solve with other constraints enabled. -/
/-- the reference's frame of such a call -/
def MW (m m' : Wd) : Prop := (∀ q, q ≠ 0 → q ≠ 15 → q ≠ 16 → q ≠ 17 → m'.1 q = m.1 q) ∧ (∀ j, j ≠ 0 → j ≠ 27 → j ≠ 36 → m'.1 0 j = m.1 0 j) ∧ m'.2 = m.2
def CWt (c c' : Wd) : Prop := (∀ q, q ≠ 61 → c'.1 q = c.1 q) ∧ c'.2 = c.2
theorem MW.refl (m : Wd) : MW m m := ⟨fun _ _ _ _ _ => rfl, fun _ _ _ _ => rfl, rfl⟩
theorem MW.trans {a b d : Wd} (h : MW a b) (h' : MW b d) : MW a d := ⟨fun q q1 q2 q3 q4 => (h'.1 q q1 q2 q3 q4).trans (h.1 q q1 q2 q3 q4), fun j j0 j1 j2 => (h'.2.1 j j0 j1 j2).trans (h.2.1 j j0 j1 j2), h'.2.2.trans h.2.2⟩
theorem CWt.refl (c : Wd) : CWt c c := ⟨fun _ _ => rfl, rfl⟩
theorem CWt.trans {a b d : Wd} (h : CWt a b) (h' : CWt b d) : CWt a d := ⟨fun q q1 => (h'.1 q q1).trans (h.1 q q1), h'.2.trans h.2⟩
theorem MW.m0 (m : Wd) : MW m (wsI m 0 0 0) := ⟨fun q q1 _ _ _ => wsI_o _ _ _ q1, fun j j0 _ _ => by rw [wsI_s, upd_o j0], rfl⟩
section WI
variable {p : Nat} {P : PK} {K : CK} {c c' m m' : Wd} {e : Int32} {v u : Int32} {i : Nat}
theorem Base.mw (h : Base p P K c m) (w : MW m m') (s : SolM P K m') : Base p P K c m' := by
  obtain ⟨h1, h2, h3, h4, h5, h6, h7, h8, h9, h10⟩ := h
  exact ⟨h1, h2, h3, h4, h5.keep fun q q1 q2 => w.1 q (by omega) (by omega) (by omega) (by omega), h6.keep (w.1 10 (by omega) (by omega) (by omega) (by omega)), h7, h8, h9, s⟩
theorem SolC.keep (h : SolC P K c) (k : ∀ q, 45 ≤ q → q ≤ 53 → c'.1 q = c.1 q) : SolC P K c' := by
  unfold SolC StampR Stamp at h ⊢
  rw [k 45 (by omega) (by omega), k 46 (by omega) (by omega), k 48 (by omega) (by omega), k 49 (by omega) (by omega), k 50 (by omega) (by omega), k 51 (by omega) (by omega), k 52 (by omega) (by omega), k 53 (by omega) (by omega)]
  exact h
theorem Base.cw (h : Base p P K c m) (w : CWt c c') : Base p P K c' m := by
  obtain ⟨h1, h2, h3, h4, h5, h6, h7, h8, h9, h10⟩ := h
  have kp : keepP c' c := ⟨fun q hq => w.1 q (by omega), w.2⟩
  exact ⟨h1, by rw [w.2]; exact h2, h3.keep h1 kp, h4.keep h1.LC kp, h5, h6, h7, h8, h9.keep fun q q1 q2 => w.1 q (by omega), h10⟩
/-- the reference solves with e enabled, and back -/
theorem m_with (h : Base p P K c m) (hE : CWF P (setE K e)) : ∃ d, f_X10_solveWith m 0 e = some d ∧ (∀ k, k < 56 → d.1 15 k = LF P (setE K e) k) ∧ ∃ m', f_X10_solveAgain d 0 = some m' ∧ MW m m' ∧ Base p P K c m' := by
  have h' := h
  obtain ⟨h1, h2, h3, h4, h5, h6, h7, h8, h9, h10⟩ := h
  generalize hd0 : wsI (wsI m 0 36 (en K)) 10 1 e = d0
  have k0 : ∀ q, q ≠ 0 → q ≠ 10 → d0.1 q = m.1 q := fun q q1 q2 => by rw [← hd0, wsI_o _ _ _ q2, wsI_o _ _ _ q1]
  have k10 : d0.1 10 = upd (m.1 10) 1 e := by rw [← hd0, wsI_s, wsI_o _ _ _ (by omega)]
  have k00 : d0.1 0 = upd (m.1 0) 36 (en K) := by rw [← hd0, wsI_o _ _ _ (by omega), wsI_s]
  have r1 : RPm d0 P := h5.keep fun q q1 q2 => k0 q (by omega) (by omega)
  have r2 : RLm d0 (setE K e) := by
    refine ⟨?_, ?_, fun i hi => ?_⟩
    · rw [k10, upd_o (by omega)]; exact h6.1
    · rw [k10, upd_s]; rfl
    · rw [k10, upd_o (by omega), upd_o (by omega), upd_o (by omega), upd_o (by omega)]; exact h6.2.2 i hi
  obtain ⟨d, e1, s1, f1, f2, f3⟩ := m_solve r1 r2 h7 hE
  refine ⟨d, ?_, s1.1, ?_⟩
  · unfold f_X10_solveWith
    show Option.bind (rdI zM m 10 (nI 1)) (fun x1 => Option.bind (some (wsI m 0 36 x1)) (fun w2 => Option.bind (wrI zM w2 10 (nI 1) e) _)) = _
    rw [rdI_M (show 1 < 122 by omega), h6.2.1, Option.bind_some, Option.bind_some, wrI_M (show 1 < 122 by omega), Option.bind_some, hd0, e1]; rfl
  · generalize hd2 : wsI d 10 1 (en K) = d2
    have j0 : ∀ q, q ≠ 10 → d2.1 q = d.1 q := fun q q1 => by rw [← hd2, wsI_o _ _ _ q1]
    have j10 : d2.1 10 = m.1 10 := by
      rw [← hd2, wsI_s, f1 10 (by omega) (by omega) (by omega) (by omega), k10]
      funext x
      by_cases hx : x = 1
      · subst hx; rw [upd_s]; exact h6.2.1.symm
      · rw [upd_o hx, upd_o hx]
    have r3 : RPm d2 P := h5.keep fun q q1 q2 => by rw [j0 q (by omega), f1 q (by omega) (by omega) (by omega) (by omega), k0 q (by omega) (by omega)]
    have r4 : RLm d2 K := h6.keep j10
    obtain ⟨m', e2, s2, g1, g2, g3⟩ := m_solve r3 r4 h7 h8
    have mw : MW m m' := by
      refine ⟨fun q q1 q2 q3 q4 => ?_, fun j jj0 j1 j2 => ?_, ?_⟩
      · rw [g1 q q1 q2 q3 q4]
        by_cases hq : q = 10
        · rw [hq, j10]
        · rw [j0 q hq, f1 q q1 q2 q3 q4, k0 q q1 hq]
      · rw [g2 j j1, j0 0 (by omega), f2 j j1, k00, upd_o j2]
      · rw [g3, ← hd2]
        show d.2 = _
        rw [f3, ← hd0]; rfl
    refine ⟨m', ?_, mw, h'.mw mw s2⟩
    unfold f_X10_solveAgain
    show Option.bind (wrI zM d 10 (nI 1) (d.1 0 36)) _ = _
    rw [wrI_M (show 1 < 122 by omega), Option.bind_some, f2 36 (by omega), k00, upd_s, hd2, e2]; rfl
theorem m_factsWith (h : Base p P K c m) (hE : CWF P (setE K e)) : ∃ m', f_X10_factsWith m 0 e = some (nI (cntT (LF P (setE K e))), m') ∧ MW m m' ∧ Base p P K c m' := by
  obtain ⟨d, e1, e2, m', e3, e4, e5⟩ := m_with h hE
  refine ⟨m', ?_, e4, e5⟩
  unfold f_X10_factsWith
  rw [e1, Option.bind_some, m_factsT e2 (fun k o q => SS_10 h.2.2.2.2.2.2.1 hE q), Option.bind_some, e3]; rfl
/-- the class's trial in a call -/
theorem c_with (h : Base p P K c m) (hE : CWF P (setE K e)) : ∃ c', f_X8_solve c 60 p e = some c' ∧ (∀ k, k < 56 → c'.1 61 k = LF P (setE K e) k) ∧ CWt c c' ∧ Base p P K c' m := by
  obtain ⟨c', e1, e2, e3, e4⟩ := t_solve (w0 := c) (P := P) (K := K) (e := e) (p := p) ⟨h.1, h.2.2.1, h.2.2.2.1, h.2.2.2.2.2.2.1, h.2.2.2.2.2.2.2.1, hE⟩
  exact ⟨c', e1, e2, ⟨e3, e4⟩, h.cw ⟨e3, e4⟩⟩
theorem c_count (h : Base p P K c m) (hE : CWF P (setE K e)) (h61 : ∀ k, k < 56 → c'.1 61 k = LF P (setE K e) k) : f_X8_countFacts c' 60 = some (nI (cntT (LF P (setE K e)))) := c_factsT h61 (fun k o q => SS_10 h.2.2.2.2.2.2.1 hE q)
/-- class and reference answer the same; the base relation stays, and little changes -/
def QT (p : Nat) (P : PK) (K : CK) (c m : Wd) (f g : Option (Int32 × Wd)) : Prop := ∃ r c' m', f = some (r, c') ∧ g = some (r, m') ∧ Base p P K c' m' ∧ CWt c c' ∧ MW m m'
theorem c_en (h : Base p P K c m) : c.1 (zrf zC p 6) 5 = en K := by rw [zp6 h.1, h.2.2.2.1.2.1]
theorem m_en (h : Base p P K c m) : rdI zM m (zrf zM 0 18) (1 : Int32) = some (en K) := by
  show rdI zM m 10 (nI 1) = _
  rw [rdI_M (show 1 < 122 by omega), h.2.2.2.2.2.1.2.1]
theorem b32 {x : Int32} {j : Nat} (h : bt x j = true) : j < 32 := by
  rcases Nat.lt_or_ge j 32 with q | q
  · exact q
  · rw [b_big q] at h; cases h
theorem q_factCountIfToggled (h : Base p P K c m) : QT p P K c m (f_X9_factCountIfToggled c 0 v) (f_X10_factCountIfToggled m 0 v) := by
  have hK := h.2.2.2.2.2.2.2.1
  have h30 := hK.1
  unfold QT f_X9_factCountIfToggled f_X10_factCountIfToggled
  rw [c_isConstraint h, Option.bind_some, Option.bind_some, m_isConstraint h.m0, Option.bind_some]
  cases e : inR v (nc K) with
  | false => exact ⟨-1, c, _, rfl, rfl, h.m0, CWt.refl c, MW.m0 m⟩
  | true =>
    obtain ⟨i, hi, rfl⟩ := inR_t (by omega) e
    have hE : CWF P (setE K (en K ^^^ jshl 1 (nI i))) := ⟨hK.1, fun j hj => by
      have hj2 : bt (en K ^^^ jshl 1 (nI i)) j = true := hj
      have h32 := b32 hj2
      rw [b_xor, bt_bit (by omega) h32] at hj2
      show j < nc K
      by_cases q : j = i
      · omega
      · rw [decide_eq_false q, Bool.xor_false] at hj2; exact hK.2.1 j hj2, hK.2.2⟩
    rw [if_neg (by decide), if_pos rfl, h.rp, Option.bind_some, Option.bind_some, m_en h.m0, Option.bind_some]
    show ∃ r c' m', Option.bind (f_X8_solve c 60 p (c.1 (zrf zC p 6) 5 ^^^ jshl 1 (nI i))) _ = _ ∧ _
    rw [c_en h]
    obtain ⟨c', e1, e2, e3, e4⟩ := c_with h hE
    obtain ⟨m', f1, f2, f3⟩ := m_factsWith e4.m0 hE
    rw [e1, f1, Option.bind_some]
    show ∃ r c'' m', Option.bind (f_X8_countFacts c' 60) _ = _ ∧ _
    rw [c_count h hE e2]
    exact ⟨_, c', m', rfl, rfl, f3, e3, (MW.m0 m).trans f2⟩
theorem q_factCountWithout (h : Base p P K c m) : QT p P K c m (f_X9_factCountWithout c 0 v) (f_X10_factCountWithout m 0 v) := by
  have hK := h.2.2.2.2.2.2.2.1
  have h30 := hK.1
  unfold QT f_X9_factCountWithout f_X10_factCountWithout
  rw [h.rp, Option.bind_some, Option.bind_some, Option.bind_some, Option.bind_some, m_count h.m0.2.2.2.2.2.1, Option.bind_some]
  have ha : f_X0_all c (zrf zC p 6) = f_X10_allOf (nI (nc K)) := by
    unfold f_X0_all f_X10_allOf
    rw [zp6 h.1, h.2.2.2.1.1]
  rw [ha]
  by_cases hz : v &&& (f_X10_allOf (nI (nc K)) ^^^ (-1 : Int32)) = 0
  · have hE : CWF P (setE K (en K &&& (v ^^^ (-1 : Int32)))) := ⟨hK.1, fun j hj => by
      have hj2 : bt (en K &&& (v ^^^ (-1 : Int32))) j = true := hj
      rw [b_and, Bool.and_eq_true] at hj2
      exact hK.2.1 j hj2.1, hK.2.2⟩
    rw [if_neg (fun z => z hz), if_pos hz, m_en h.m0, Option.bind_some]
    show ∃ r c' m', Option.bind (f_X8_solve c 60 p (c.1 (zrf zC p 6) 5 &&& _)) _ = _ ∧ _
    rw [c_en h]
    obtain ⟨c', e1, e2, e3, e4⟩ := c_with h hE
    obtain ⟨m', f1, f2, f3⟩ := m_factsWith e4.m0 hE
    rw [e1, f1, Option.bind_some]
    show ∃ r c'' m', Option.bind (f_X8_countFacts c' 60) _ = _ ∧ _
    rw [c_count h hE e2]
    exact ⟨_, c', m', rfl, rfl, f3, e3, (MW.m0 m).trans f2⟩
  · rw [if_pos hz, if_neg hz]
    exact ⟨-1, c, _, rfl, rfl, h.m0, CWt.refl c, MW.m0 m⟩
/-- how many facts are lost without a constraint -/
theorem cnt_wo_le (hP : PWF P) (hK : CWF P K) (hi : i < 32) : cntT (LF P (setE K (wo K i))) ≤ cntT (LF P K) := cn_sub fun f hf hb => LF_sub hP hK (wo_ok hK hi) (fun j hj => by
  rw [bt_wo hi (b32 hj), Bool.and_eq_true] at hj
  exact hj.1) hb
theorem c_lost (h : Base p P K c m) (hi : i < nc K) : ∃ c', f_X9_factsLostWithout c 0 (nI i) = some (nI (cntT (LF P K) - cntT (LF P (setE K (wo K i)))), c') ∧ CWt c c' ∧ Base p P K c' m := by
  have hP := h.2.2.2.2.2.2.1
  have hK := h.2.2.2.2.2.2.2.1
  have h30 := hK.1
  have hS := h.2.2.2.2.2.2.2.2.1
  have hu := hS.2.2.2.2 i (by omega)
  unfold f_X9_factsLostWithout
  show ∃ c', (if ¬ (f_X9_contains (c.1 45 4) (nI i) = true) then _ else _) = _ ∧ _
  rw [cont_bt (by omega)]
  cases hb : bt (c.1 45 4) i with
  | false =>
    refine ⟨c, ?_, CWt.refl c, h⟩
    rw [if_pos (by decide), LF_unused hP hK (by omega) fun k o hf hq => ?_, Nat.sub_self]
    · rfl
    · have := hu.mpr ⟨k, o, (LF_ok hP hK k o hf).1, SS_10 hP hK hf, hf, hq⟩
      rw [hb] at this; cases this
  | true =>
    rw [if_neg (by decide), h.rp, Option.bind_some, Option.bind_some]
    show ∃ c', Option.bind (f_X8_solve c 60 p (c.1 (zrf zC p 6) 5 &&& _)) _ = _ ∧ _
    rw [c_en h]
    obtain ⟨c', e1, e2, e3, e4⟩ := c_with h (wo_ok hK (show i < 32 by omega))
    refine ⟨c', ?_, e3, e4⟩
    show Option.bind (f_X8_solve c 60 p (wo K i)) (fun w4 => Option.bind (f_X8_countFacts w4 60) (fun x5 => some ((w4.1 45 2) - x5, w4))) = _
    rw [e1, Option.bind_some, c_count h (wo_ok hK (show i < 32 by omega)) e2, Option.bind_some, e4.2.2.2.2.2.2.2.2.1.2.2.1]
    show some (nI (cntT (LF P K)) - _, _) = _
    rw [pk_sub (cnt_wo_le hP hK (by omega))]
end WI
