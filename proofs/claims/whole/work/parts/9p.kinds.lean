/-! kindOf, operand: what the class answers or throws, and the reference's answer and its word. -/
section KD
variable {p : Nat} {P : PK} {K : CK} {V O : Nat → Wrd} {c m : Wd} {u v : Int32}
theorem WR.mx (h : WR p P K V O c m) (x : Int32) : WR p P K V O c (wsI m 0 0 x) := by
  obtain ⟨⟨hb, hh⟩, hs, ⟨L, u1, u2, u3, u4⟩, hn, hnm, hg, hd, l1, l2, hr⟩ := h
  refine ⟨⟨hb.mF (by decide), hh.keep rfl rfl (wsI_o _ _ _ (by omega)) (by rw [wsI_s, upd_o (by omega)])⟩, ?_, ⟨L, u1, u2, by rw [wsI_s, upd_o (by omega)]; exact u3, fun j hj => by rw [wsI_o _ _ _ (by omega)]; exact u4 j hj⟩, hn, hnm, hg, hd, l1, l2, hr⟩
  unfold SnapR at hs ⊢
  intro s hs2
  rw [wsI_o _ _ _ (by omega), wsI_o _ _ _ (by omega)]
  exact hs s hs2
theorem th_0 (m : Wd) (x : Int32) : (wsI m 0 0 x).1 0 0 = x := by rw [wsI_s, upd_s]
theorem w_kind (h : RW c m) : ∃ b r r2 m', f_X9_isConstraint c 0 v = some b ∧ (b = true → ∃ x, rdD zC c 0 1 6 = some x ∧ rdI zC c (zrf zC (zrf zC x 6) 0) v = some r) ∧ f_X10_kindOf m 0 v = some (r2, m') ∧ RW c m' ∧ f_X10_thrown m' 0 = (if b = true then 0 else 1) ∧ (b = true → r2 = r) := by
  obtain ⟨p, P, K, V, O, h⟩ := h
  have hb := h.1.1
  have hK := hb.2.2.2.2.2.2.2.1
  have e1 := m_isConstraint (v := v) hb
  cases hi : inR v (nc K) with
  | false =>
    rw [hi] at e1
    refine ⟨false, 0, 0, wsI m 0 0 1, by rw [c_isConstraint hb, hi], fun z => (by cases z), ?_, ⟨p, P, K, V, O, h.mx 1⟩, th_0 m 1, fun z => by cases z⟩
    unfold f_X10_kindOf
    rw [e1, Option.bind_some, Option.bind_some, if_neg (show ¬ (false = true) by decide), th_0, if_neg (by decide), Option.bind_some]
  | true =>
    rw [hi] at e1
    have hn := hK.1
    obtain ⟨i, h1, rfl⟩ := inR_t (by omega) hi
    have h0 := (h.mx 0).1.1
    refine ⟨true, nI (kd K i), nI (kd K i), wsI m 0 0 0, by rw [c_isConstraint hb, hi], fun _ => ⟨p, hb.rp, ?_⟩, ?_, ⟨p, P, K, V, O, h.mx 0⟩, th_0 m 0, fun _ => rfl⟩
    · rw [zp6 hb.1, zl0 hb.1.LC]
      exact r_k1 hb.1.LC hb.2.2.2.1 hn h1
    · unfold f_X10_kindOf
      rw [e1, Option.bind_some, Option.bind_some, if_pos rfl, th_0, if_pos rfl, m_kind h0.2.2.2.2.2.1 hn h1]
      rfl
theorem in3 : inR u 3 = (decide (¬ u < 0) && decide (u < 3)) := by
  unfold inR
  by_cases h1 : (0 : Int32) ≤ u
  · have h2 : ¬ u < 0 := fun z => by
      have a := Int32.le_iff_toInt_le.mp h1
      have b := Int32.lt_iff_toInt_lt.mp z
      omega
    rw [decide_eq_true h2, Bool.true_and]
    exact decide_eq_decide.mpr ⟨fun z => z.2, fun z => ⟨h1, z⟩⟩
  · have h2 : u < 0 := by
      rw [Int32.le_iff_toInt_le] at h1
      rw [Int32.lt_iff_toInt_lt]
      omega
    rw [decide_eq_false (fun z => h1 z.1), decide_eq_false (fun z => z h2), Bool.false_and]
theorem w_operand (h : RW c m) : ∃ b1 b r r2 m', f_X9_isConstraint c 0 v = some b1 ∧ b = (b1 && decide (¬ u < 0) && decide (u < 3)) ∧ (b = true → ∃ x, rdD zC c 0 1 6 = some x ∧ f_X0_operandAt c (zrf zC x 6) v u = some r) ∧ f_X10_operand m 0 v u = some (r2, m') ∧ RW c m' ∧ f_X10_thrown m' 0 = (if b = true then 0 else 1) ∧ (b = true → r2 = r) := by
  obtain ⟨p, P, K, V, O, h⟩ := h
  have hb := h.1.1
  have hK := hb.2.2.2.2.2.2.2.1
  have hn := hK.1
  have e1 := m_isConstraint (v := v) hb
  have e2 : f_X10_within u.toInt64 0 2 = inR u 3 := within_R (v := u) (n := 3) (by omega)
  have e3 : (inR v (nc K) && decide (¬ u < 0) && decide (u < 3)) = (inR v (nc K) && inR u 3) := by rw [in3, Bool.and_assoc]
  cases hi : (inR v (nc K) && inR u 3) with
  | false =>
    refine ⟨inR v (nc K), false, 0, 0, wsI m 0 0 1, c_isConstraint hb, (e3.trans hi).symm, fun z => (by cases z), ?_, ⟨p, P, K, V, O, h.mx 1⟩, th_0 m 1, fun z => by cases z⟩
    unfold f_X10_operand
    rw [e1, Option.bind_some, Option.bind_some, e2, if_neg (show ¬ (inR v (nc K) = true ∧ inR u 3 = true) from fun z => by rw [z.1, z.2] at hi; cases hi), th_0, if_neg (by decide), Option.bind_some]
  | true =>
    have hi2 := Bool.and_eq_true_iff.mp hi
    obtain ⟨i, h1, rfl⟩ := inR_t (by omega) hi2.1
    obtain ⟨j, h2, rfl⟩ := inR_t (by omega) hi2.2
    have h0 := (h.mx 0).1.1
    have hL := hb.2.2.2.1
    have hM := h0.2.2.2.2.2.1
    obtain ⟨r, k1, k2⟩ : ∃ r, f_X0_operandAt c (p + 9) (nI i) (nI j) = some r ∧ (wsI m 0 0 0).1 10 (3 + 4 * i + j) = r := by
      unfold f_X0_operandAt
      rw [zl1 hb.1.LC, zl2 hb.1.LC, zl3 hb.1.LC, r_k2 hb.1.LC hL hn h1, r_k3 hb.1.LC hL hn h1, r_k4 hb.1.LC hL hn h1]
      have := hM.2.2 i h1
      rcases (show j = 0 ∨ j = 1 ∨ j = 2 by omega) with rfl | rfl | rfl
      · exact ⟨_, by rw [if_pos (show nI 0 = 0 from rfl)]; rfl, this.2.1⟩
      · exact ⟨_, by rw [if_neg (show ¬ nI 1 = 0 by decide), if_pos (show nI 1 = 1 from rfl)]; rfl, (congrArg _ (by omega)).trans this.2.2.1⟩
      · exact ⟨_, by rw [if_neg (show ¬ nI 2 = 0 by decide), if_neg (show ¬ nI 2 = 1 by decide)]; rfl, (congrArg _ (by omega)).trans this.2.2.2⟩
    refine ⟨inR (nI i) (nc K), true, r, r, wsI m 0 0 0, c_isConstraint hb, (e3.trans hi).symm, fun _ => ⟨p, hb.rp, by rw [zp6 hb.1]; exact k1⟩, ?_, ⟨p, P, K, V, O, h.mx 0⟩, th_0 m 0, fun _ => rfl⟩
    unfold f_X10_operand
    rw [e1, Option.bind_some, Option.bind_some, e2, if_pos (show inR (nI i) (nc K) = true ∧ inR (nI j) 3 = true from hi2), th_0, if_pos rfl]
    show Option.bind (Option.bind (rdI zM (wsI m 0 0 0) 10 (nI 3 + nI 4 * nI i + nI j)) _) _ = _
    rw [m_ix, nI_add, rdI_M (show 3 + 4 * i + j < 122 by omega), k2]
    rfl
end KD
