/-! The call addConstraint, put together. -/
section AE
variable {p : Nat} {P : PK} {K K' : CK} {c m w : Wd} {v a b d y : Int32} {k j x y' z : Nat}
theorem m_row (hL : RLm m K) (hn : nc K < 30) : ∃ m', Option.bind (rdI zM m ((zrf zM (0) 18)) ((0 : Int32))) (fun x7 => Option.bind (wrI zM m ((zrf zM (0) 18)) (((2 : Int32) + ((4 : Int32) * x7))) (nI k)) (fun w8 => Option.bind (wrI zM w8 ((zrf zM (0) 18)) (((3 : Int32) + ((4 : Int32) * x7))) (nI x)) (fun w9 => Option.bind (wrI zM w9 ((zrf zM (0) 18)) (((4 : Int32) + ((4 : Int32) * x7))) (nI y')) (fun w10 => Option.bind (wrI zM w10 ((zrf zM (0) 18)) (((5 : Int32) + ((4 : Int32) * x7))) (thI k z)) (fun w11 => Option.bind (wrI zM w11 ((zrf zM (0) 18)) ((0 : Int32)) ((x7 + (1 : Int32)))) (fun w12 => Option.bind (rdI zM w12 ((zrf zM (0) 18)) ((1 : Int32))) (fun x13 => Option.bind (wrI zM w12 ((zrf zM (0) 18)) ((1 : Int32)) ((x13 ||| (jshl ((1 : Int32)) (x7))))) (fun w14 => Option.bind ((f_X10_solve w14 (0))) (fun w15 => some ((x7, w15))))))))))) = Option.bind (f_X10_solve m' 0) (fun w15 => some (nI (nc K), w15)) ∧ RLm m' (addK K k x y' z) ∧ (∀ q, q ≠ 10 → m'.1 q = m.1 q) ∧ m'.2 = m.2 := by
  show ∃ m', Option.bind (rdI zM m 10 (nI 0)) (fun x7 => Option.bind (wrI zM m 10 (nI 2 + nI 4 * x7) (nI k)) (fun w8 => Option.bind (wrI zM w8 10 (nI 3 + nI 4 * x7) (nI x)) (fun w9 => Option.bind (wrI zM w9 10 (nI 4 + nI 4 * x7) (nI y')) (fun w10 => Option.bind (wrI zM w10 10 (nI 5 + nI 4 * x7) (thI k z)) (fun w11 => Option.bind (wrI zM w11 10 (nI 0) (x7 + 1)) (fun w12 => Option.bind (rdI zM w12 10 (nI 1)) (fun x13 => Option.bind (wrI zM w12 10 (nI 1) (x13 ||| (jshl 1 x7))) (fun w14 => Option.bind ((f_X10_solve w14 (0))) (fun w15 => some ((x7, w15))))))))))) = _ ∧ _
  rw [rdI_M (show 0 < 122 by omega), hL.1, Option.bind_some, m_ix, m_ix, m_ix, m_ix, wrI_M (show 2 + 4 * nc K < 122 by omega), Option.bind_some, wrI_M (show 3 + 4 * nc K < 122 by omega), Option.bind_some, wrI_M (show 4 + 4 * nc K < 122 by omega), Option.bind_some, wrI_M (show 5 + 4 * nc K < 122 by omega), Option.bind_some, wrI_M (show 0 < 122 by omega), Option.bind_some]
  generalize h5 : wsI (wsI (wsI (wsI (wsI m 10 (2 + 4 * nc K) (nI k)) 10 (3 + 4 * nc K) (nI x)) 10 (4 + 4 * nc K) (nI y')) 10 (5 + 4 * nc K) (thI k z)) 10 0 (nI (nc K) + 1) = m5
  have o : ∀ q, q ≠ 10 → m5.1 q = m.1 q := fun q hq => by rw [← h5, wsI_o _ _ _ hq, wsI_o _ _ _ hq, wsI_o _ _ _ hq, wsI_o _ _ _ hq, wsI_o _ _ _ hq]
  have e : m5.1 10 = upd (upd (upd (upd (upd (m.1 10) (2 + 4 * nc K) (nI k)) (3 + 4 * nc K) (nI x)) (4 + 4 * nc K) (nI y')) (5 + 4 * nc K) (thI k z)) 0 (nI (nc K) + 1) := by rw [← h5, wsI_s, wsI_s, wsI_s, wsI_s, wsI_s]
  have e1 : m5.1 10 1 = en K := by rw [e, upd_o (by omega), upd_o (by omega), upd_o (by omega), upd_o (by omega), upd_o (by omega), hL.2.1]
  rw [rdI_M (show 1 < 122 by omega), Option.bind_some, wrI_M (show 1 < 122 by omega), Option.bind_some, e1]
  refine ⟨_, rfl, ⟨?_, ?_, fun i hi => ?_⟩, fun q hq => by rw [wsI_o _ _ _ hq]; exact o q hq, by show m5.2 = _; rw [← h5]; rfl⟩
  · rw [wsI_s, upd_o (by omega), e, upd_s]; exact nI_1 _
  · rw [wsI_s, upd_s]; rfl
  · have hi2 : i < nc K + 1 := hi
    have r : ∀ j, j ≠ 1 → (wsI m5 10 1 (en K ||| jshl 1 (nI (nc K)))).1 10 j = m5.1 10 j := fun j hj => by rw [wsI_s, upd_o hj]
    rw [r _ (by omega), r _ (by omega), r _ (by omega), r _ (by omega), e]
    by_cases q : i = nc K
    · subst q
      rw [addK_new.1, addK_new.2.1, addK_new.2.2.1, addK_new.2.2.2]
      refine ⟨?_, ?_, ?_, ?_⟩
      · rw [upd_o (by omega), upd_o (by omega), upd_o (by omega), upd_o (by omega), upd_s]
      · rw [upd_o (by omega), upd_o (by omega), upd_o (by omega), upd_s]
      · rw [upd_o (by omega), upd_o (by omega), upd_s]
      · rw [upd_o (by omega), upd_s]
    · have q2 : i < nc K := by omega
      obtain ⟨t1, t2, t3, t4⟩ := hL.2.2 i q2
      rw [(addK_old q2).1, (addK_old q2).2.1, (addK_old q2).2.2.1, (addK_old q2).2.2.2]
      refine ⟨?_, ?_, ?_, ?_⟩
      · rw [upd_o (by omega), upd_o (by omega), upd_o (by omega), upd_o (by omega), upd_o (by omega)]; exact t1
      · rw [upd_o (by omega), upd_o (by omega), upd_o (by omega), upd_o (by omega), upd_o (by omega)]; exact t2
      · rw [upd_o (by omega), upd_o (by omega), upd_o (by omega), upd_o (by omega), upd_o (by omega)]; exact t3
      · rw [upd_o (by omega), upd_o (by omega), upd_o (by omega), upd_o (by omega), upd_o (by omega)]; exact t4
end AE
