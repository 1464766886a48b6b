/-! The call addConstraint. -/
def addK (K : CK) (k a b d : Nat) : CK := (nc K + 1, en K ||| jshl 1 (nI (nc K)), fun i => if i = nc K then k else kd K i, fun i => if i = nc K then a else ka K i, fun i => if i = nc K then b else kb K i, fun i => if i = nc K then d else kc K i)
section AD
variable {p : Nat} {P : PK} {K K' : CK} {c m w : Wd} {v a b d y : Int32} {k j x y' z' : Nat}
theorem okOp_row (hP : PWF P) (hk : k ≤ 4) (h : okOp P k a b d = true) : ∃ x y z, a = nI x ∧ b = nI y ∧ d = thI k z ∧ RowOK P k x y z := by
  have q1 := hP.1
  have q2 := hP.2.1
  have q3 := hP.2.2.1
  unfold okOp at h
  rw [Bool.and_eq_true] at h
  obtain ⟨h1, h2⟩ := h
  obtain ⟨x, hx, rfl⟩ := inR_t (by omega) h1
  have : k = 0 ∨ k = 1 ∨ k = 2 ∨ k = 3 ∨ k = 4 := by omega
  rcases this with rfl | rfl | rfl | rfl | rfl
  · rw [if_pos rfl, Bool.and_eq_true, decide_eq_true_eq] at h2
    obtain ⟨y, hy, rfl⟩ := inR_t (by omega) h2.1
    exact ⟨x, y, 0, rfl, rfl, h2.2, by omega, hx, fun _ => hy, fun z => by omega, fun z => by omega, fun z => by omega, fun z => by omega⟩
  · rw [if_neg (by omega), if_pos rfl, Bool.and_eq_true, decide_eq_true_eq] at h2
    obtain ⟨y, hy, rfl⟩ := inR_t (by omega) h2.1
    exact ⟨x, y, 0, rfl, rfl, h2.2, by omega, hx, fun z => by omega, fun _ => hy, fun z => by omega, fun z => by omega, fun z => by omega⟩
  · rw [if_neg (by omega), if_neg (by omega), if_pos rfl, Bool.and_eq_true] at h2
    obtain ⟨y, hy, rfl⟩ := inR_t (by omega) h2.1
    obtain ⟨z, hz, rfl⟩ := inR_t (by omega) h2.2
    exact ⟨x, y, z, rfl, rfl, rfl, by omega, hx, fun z => by omega, fun z => by omega, fun _ => ⟨hy, hz⟩, fun z => by omega, fun z => by omega⟩
  · rw [if_neg (by omega), if_neg (by omega), if_neg (by omega), if_pos rfl, Bool.and_eq_true] at h2
    obtain ⟨y, hy, rfl⟩ := inR_t (by omega) h2.1
    obtain ⟨z, hz, rfl⟩ := inR_t (by omega) h2.2
    exact ⟨x, y, z, rfl, rfl, rfl, by omega, hx, fun z => by omega, fun z => by omega, fun z => by omega, fun _ => ⟨hy, hz⟩, fun z => by omega⟩
  · rw [if_neg (by omega), if_neg (by omega), if_neg (by omega), if_neg (by omega), Bool.and_eq_true] at h2
    obtain ⟨y, hy, rfl⟩ := inR_t (by omega) h2.1
    obtain ⟨z, hz, rfl⟩ := inR_t (by omega) h2.2
    exact ⟨x, y, z, rfl, rfl, rfl, by omega, hx, fun z => by omega, fun z => by omega, fun z => by omega, fun z => by omega, fun _ => ⟨hy, hz⟩⟩
theorem addK_new {z : Nat} : kd (addK K k x y' z) (nc K) = k ∧ ka (addK K k x y' z) (nc K) = x ∧ kb (addK K k x y' z) (nc K) = y' ∧ kc (addK K k x y' z) (nc K) = z := ⟨if_pos rfl, if_pos rfl, if_pos rfl, if_pos rfl⟩
theorem addK_old {z i : Nat} (hi : i < nc K) : kd (addK K k x y' z) i = kd K i ∧ ka (addK K k x y' z) i = ka K i ∧ kb (addK K k x y' z) i = kb K i ∧ kc (addK K k x y' z) i = kc K i := ⟨if_neg (by omega), if_neg (by omega), if_neg (by omega), if_neg (by omega)⟩
theorem addK_ok {z : Nat} (hK : CWF P K) (hn : nc K < 30) (hr : RowOK P k x y' z) : CWF P (addK K k x y' z) := by
  refine ⟨hn, fun j hj => ?_, fun i hi => ?_⟩
  · have hj2 : bt (en K ||| jshl 1 (nI (nc K))) j = true := hj
    have h32 := b32 hj2
    rw [b_or, bt_bit (by omega) h32, Bool.or_eq_true, decide_eq_true_eq] at hj2
    show j < nc K + 1
    rcases hj2 with q | q
    · have := hK.2.1 j q; omega
    · omega
  · have hi2 : i < nc K + 1 := hi
    by_cases e : i = nc K
    · subst e
      rw [addK_new.1, addK_new.2.1, addK_new.2.2.1, addK_new.2.2.2]; exact hr
    · have e2 : i < nc K := by omega
      rw [(addK_old e2).1, (addK_old e2).2.1, (addK_old e2).2.2.1, (addK_old e2).2.2.2]; exact hK.2.2 i e2
theorem addK_change {z : Nat} : ChangeTo K (-1) (addK K k x y' z) := Or.inl ⟨rfl, rfl, rfl, fun _ hi => addK_old hi⟩
theorem c_add {L z : Nat} (hL : LC L) (h : RLc c L K) (hn : nc K < 30) : ∃ c', f_X0_add c L (nI k) (nI x) (nI y') (thI k z) = some c' ∧ RLc c' L (addK K k x y' z) ∧ (∀ q, ¬ (L ≤ q ∧ q ≤ L + 4) → c'.1 q = c.1 q) ∧ c'.2 = c.2 := by
  have hf : f_X0_isFull c L = false := by
    unfold f_X0_isFull
    rw [h.1]
    exact decide_eq_false fun q => by
      have := (n_le (a := 30) (by omega) (by omega)).mp q
      omega
  unfold f_X0_add
  rw [hf, if_neg (by decide), zl0 hL, zl1 hL, zl2 hL, zl3 hL, h.1, wrI_C (by rw [zm1 hL]; exact hn), Option.bind_some, wsI_o _ _ _ (by omega), h.1, wrI_C (by rw [zm2 hL]; exact hn), Option.bind_some, wsI_o _ _ _ (by omega), wsI_o _ _ _ (by omega), h.1, wrI_C (by rw [zm3 hL]; exact hn), Option.bind_some, wsI_o _ _ _ (by omega), wsI_o _ _ _ (by omega), wsI_o _ _ _ (by omega), h.1, wrI_C (by rw [zm4 hL]; exact hn), Option.bind_some, Option.bind_some, Option.bind_some]
  generalize h4 : wsI (wsI (wsI (wsI c (L + 1) (nc K) (nI k)) (L + 2) (nc K) (nI x)) (L + 3) (nc K) (nI y')) (L + 4) (nc K) (thI k z) = c4
  have o : ∀ q, ¬ (L < q ∧ q ≤ L + 4) → c4.1 q = c.1 q := fun q hq => by rw [← h4, wsI_o _ _ _ (by omega), wsI_o _ _ _ (by omega), wsI_o _ _ _ (by omega), wsI_o _ _ _ (by omega)]
  have e1 : c4.1 (L + 1) = upd (c.1 (L + 1)) (nc K) (nI k) := by rw [← h4, wsI_o _ _ _ (by omega), wsI_o _ _ _ (by omega), wsI_o _ _ _ (by omega), wsI_s]
  have e2 : c4.1 (L + 2) = upd (c.1 (L + 2)) (nc K) (nI x) := by rw [← h4, wsI_o _ _ _ (by omega), wsI_o _ _ _ (by omega), wsI_s, wsI_o _ _ _ (by omega)]
  have e3 : c4.1 (L + 3) = upd (c.1 (L + 3)) (nc K) (nI y') := by rw [← h4, wsI_o _ _ _ (by omega), wsI_s, wsI_o _ _ _ (by omega), wsI_o _ _ _ (by omega)]
  have e4 : c4.1 (L + 4) = upd (c.1 (L + 4)) (nc K) (thI k z) := by rw [← h4, wsI_s, wsI_o _ _ _ (by omega), wsI_o _ _ _ (by omega), wsI_o _ _ _ (by omega)]
  refine ⟨_, rfl, ⟨?_, ?_, fun i hi => ?_⟩, fun q hq => by rw [wsI_o _ _ _ (by omega), wsI_o _ _ _ (by omega), o q (by omega)], by show c4.2 = _; rw [← h4]; rfl⟩
  · rw [wsI_s, upd_s, wsI_s, upd_o (by omega), o L (by omega), h.1]; exact nI_1 _
  · rw [wsI_s, upd_o (by omega), wsI_s, upd_s, o L (by omega), h.2.1, h.1]; rfl
  · rw [wsI_o _ _ _ (by omega), wsI_o _ _ _ (by omega), wsI_o _ _ _ (by omega), wsI_o _ _ _ (by omega), wsI_o _ _ _ (by omega), wsI_o _ _ _ (by omega), wsI_o _ _ _ (by omega), wsI_o _ _ _ (by omega), e1, e2, e3, e4]
    have hi2 : i < nc K + 1 := hi
    by_cases e : i = nc K
    · subst e
      rw [addK_new.1, addK_new.2.1, addK_new.2.2.1, addK_new.2.2.2, upd_s, upd_s, upd_s, upd_s]
      exact ⟨rfl, rfl, rfl, rfl⟩
    · have q : i < nc K := by omega
      rw [(addK_old q).1, (addK_old q).2.1, (addK_old q).2.2.1, (addK_old q).2.2.2, upd_o e, upd_o e, upd_o e, upd_o e]
      exact h.2.2 i q
end AD
