/-! The calls that only read: counts, objects, sets. -/
/-- class and reference answer the same, and the reference only clears its word for what was thrown -/
def QS {α : Type} (f : Option α) (g : Option (α × Wd)) (m : Wd) : Prop := ∃ r, f = some r ∧ g = some (r, wsI m 0 0 0)
section SQ
variable {p : Nat} {P : PK} {K : CK} {c m : Wd} {v u : Int32}
theorem Base.m0 (h : Base p P K c m) : Base p P K c (wsI m 0 0 0) := h.mF (by decide)
theorem q_variableCount (h : Base p P K c m) : QS (f_X9_variableCount c 0) (f_X10_variableCount m 0) m := by
  have h1 := h.m0.2.2.2.2.1
  refine ⟨nI (nv P), ?_, ?_⟩
  · unfold f_X9_variableCount
    rw [h.rp, Option.bind_some, zp0 h.1, h.2.2.1.1]
  · unfold f_X10_variableCount
    rw [Option.bind_some]
    show Option.bind (rdI zM _ 2 (nI 0)) _ = _
    rw [rdI_M (show 0 < 2 by omega), h1.1]; rfl
theorem q_objectCount (h : Base p P K c m) : QS (f_X9_objectCount c 0) (f_X10_objectCount m 0) m := by
  have h1 := h.m0.2.2.2.2.1
  refine ⟨nI (no P), ?_, ?_⟩
  · unfold f_X9_objectCount
    rw [h.rp, Option.bind_some, zp1 h.1, h.2.2.1.2.1]
  · unfold f_X10_objectCount
    rw [Option.bind_some, m_objects h1]; rfl
theorem q_fieldCount (h : Base p P K c m) : QS (f_X9_fieldCount c 0) (f_X10_fieldCount m 0) m := by
  have h1 := h.m0.2.2.2.2.1
  refine ⟨nI (nf P), ?_, ?_⟩
  · unfold f_X9_fieldCount
    rw [h.rp, Option.bind_some, zp2 h.1, h.2.2.1.2.2.1]
  · unfold f_X10_fieldCount
    rw [Option.bind_some]
    show Option.bind (rdI zM _ 4 (nI 0)) _ = _
    rw [rdI_M (show 0 < 2 by omega), h1.2.2.1]; rfl
theorem q_constraintCount (h : Base p P K c m) : QS (f_X9_constraintCount c 0) (f_X10_constraintCount m 0) m := by
  have h1 := h.m0.2.2.2.2.2.1
  refine ⟨nI (nc K), ?_, ?_⟩
  · unfold f_X9_constraintCount
    rw [h.rp, Option.bind_some, zp6 h.1, h.2.2.2.1.1]
  · unfold f_X10_constraintCount
    rw [Option.bind_some, m_count h1]; rfl
theorem q_enabledConstraints (h : Base p P K c m) : QS (f_X9_enabledConstraints c 0) (f_X10_enabledConstraints m 0) m := by
  have h1 := h.m0.2.2.2.2.2.1
  refine ⟨en K, ?_, ?_⟩
  · unfold f_X9_enabledConstraints
    rw [h.rp, Option.bind_some, zp6 h.1, h.2.2.2.1.2.1]
  · unfold f_X10_enabledConstraints
    rw [Option.bind_some]
    show Option.bind (rdI zM _ 10 (nI 1)) _ = _
    rw [rdI_M (show 1 < 122 by omega), h1.2.1]; rfl
theorem m_functionSet (h : Base p P K c m) : f_X10_functionSet m 0 = some (fs P) := by
  have hP := h.2.2.2.2.2.2.1
  have hm := h.2.2.2.2.1
  have := hP.2.1
  unfold f_X10_functionSet
  refine wp_is ?_
  rw [wp_bind]
  refine wp_mono (lp_inv (fun i s => s.2 = nI i ∧ ∀ j, j < 32 → bt s.1 j = (decide (j < i) && bt (fs P) j)) (fun r => r = fs P) (no P) ?_ ?_ (by unfold NF; omega) ⟨rfl, fun j _ => ?_⟩) (fun a q => wp_some.mpr q)
  · rintro i ⟨a, s⟩ hi ⟨h1, h2⟩
    dsimp only at h1 h2
    subst h1
    unfold b_X10_functionSet_1
    dsimp only
    rw [m_objects hm, Option.bind_some, if_pos ((n_lt (by omega) (by omega)).mpr hi), m_isFunction hm hP hi, Option.bind_some, wp_some]
    refine ⟨nI_1 i, fun j hj => ?_⟩
    dsimp only
    rw [b_or, h2 j hj]
    by_cases e : j = i
    · subst e
      cases bt (fs P) j with
      | false => rw [if_neg (by decide), b_0]; simp
      | true => rw [if_pos rfl, bt_bit (by omega) hj]; simp
    · have e2 : bt (if bt (fs P) i = true then jshl 1 (nI i) else 0) j = false := by
        split
        · rw [bt_bit (by omega) hj, decide_eq_false e]
        · exact b_0 j
      rw [e2, Bool.or_false, show decide (j < i + 1) = decide (j < i) from decide_eq_decide.mpr (by omega)]
  · rintro ⟨a, s⟩ ⟨h1, h2⟩
    dsimp only at h1 h2
    subst h1
    unfold b_X10_functionSet_1
    dsimp only
    rw [m_objects hm, Option.bind_some, if_neg (fun z => Nat.lt_irrefl _ ((n_lt (by omega) (by omega)).mp z)), wp_some]
    refine b_ext fun j hj => ?_
    rw [h2 j hj]
    cases e : bt (fs P) j with
    | false => rw [Bool.and_false]
    | true => rw [decide_eq_true (hP.2.2.2 j e).1]; rfl
  · dsimp only
    rw [b_0, decide_eq_false (by omega)]; rfl
theorem q_functions (h : Base p P K c m) : QS (f_X9_functions c 0) (f_X10_functions m 0) m := by
  refine ⟨fs P, ?_, ?_⟩
  · unfold f_X9_functions
    rw [h.rp, Option.bind_some, h.2.2.1.2.2.2.1]
  · unfold f_X10_functions
    rw [Option.bind_some, m_functionSet h.m0]; rfl
theorem q_parameterOf (h : Base p P K c m) : QS (f_X9_parameterOf c 0 v) (f_X10_parameterOf m 0 v) m := by
  have hP := h.2.2.2.2.2.2.1
  have hn := hP.2.1
  have hm := h.m0.2.2.2.2.1
  unfold QS f_X9_parameterOf f_X10_parameterOf
  rw [c_isObject h, Option.bind_some, Option.bind_some, m_isObject h.m0, Option.bind_some]
  cases e : inR v (no P) with
  | false => exact ⟨-1, rfl, rfl⟩
  | true =>
    obtain ⟨j, hj, rfl⟩ := inR_t (by omega) e
    rw [if_neg (by decide), if_pos rfl, h.rp, Option.bind_some, Option.bind_some, zp3 h.1]
    show ∃ r, Option.bind (if f_X9_contains (c.1 p 5) (nI j) = true then _ else _) _ = _ ∧ Option.bind (Option.bind (rdI zM _ 8 (nI j)) _) _ = _
    rw [rdI_M (show j < 20 by omega), Option.bind_some, Option.bind_some, h.2.2.1.2.2.2.1, cont_bt (by omega)]
    cases e2 : bt (fs P) j with
    | false => exact ⟨-2, rfl, by rw [((hm.2.2.2 j hj).2 e2).1]⟩
    | true => exact ⟨nI (pr P j), by rw [if_pos rfl, rdI_C (by rw [zn7 h.1]; omega), (h.2.2.1.2.2.2.2 j e2).1]; rfl, by rw [((hm.2.2.2 j hj).1 e2).1]⟩
theorem q_resultOf (h : Base p P K c m) : QS (f_X9_resultOf c 0 v) (f_X10_resultOf m 0 v) m := by
  have hP := h.2.2.2.2.2.2.1
  have hn := hP.2.1
  have hm := h.m0.2.2.2.2.1
  unfold QS f_X9_resultOf f_X10_resultOf
  rw [c_isObject h, Option.bind_some, Option.bind_some, m_isObject h.m0, Option.bind_some]
  cases e : inR v (no P) with
  | false => exact ⟨-1, rfl, rfl⟩
  | true =>
    obtain ⟨j, hj, rfl⟩ := inR_t (by omega) e
    rw [if_neg (by decide), if_pos rfl, h.rp, Option.bind_some, Option.bind_some, zp4 h.1]
    show ∃ r, Option.bind (if f_X9_contains (c.1 p 5) (nI j) = true then _ else _) _ = _ ∧ Option.bind (Option.bind (rdI zM _ 9 (nI j)) _) _ = _
    rw [rdI_M (show j < 20 by omega), Option.bind_some, Option.bind_some, h.2.2.1.2.2.2.1, cont_bt (by omega)]
    cases e2 : bt (fs P) j with
    | false => exact ⟨-2, rfl, by rw [((hm.2.2.2 j hj).2 e2).2]⟩
    | true => exact ⟨nI (rs P j), by rw [if_pos rfl, rdI_C (by rw [zn8 h.1]; omega), (h.2.2.1.2.2.2.2 j e2).2]; rfl, by rw [((hm.2.2.2 j hj).1 e2).2]⟩
theorem q_roundCount (h : Base p P K c m) : QS (some (f_X9_roundCount c 0)) (f_X10_roundCount m 0) m := by
  refine ⟨nI (RR P K), ?_, ?_⟩
  · unfold f_X9_roundCount
    show some (c.1 45 3) = _
    rw [h.2.2.2.2.2.2.2.2.1.2.2.2.1]
  · unfold f_X10_roundCount
    rw [Option.bind_some, h.m0.2.2.2.2.2.2.2.2.2.2.2]
/-- a set of the solution, read by class and reference -/
theorem c_set (h : Base p P K c m) {s : Nat} (hs : s < 56) : rdI zC c (zrf zC (zrf zC 0 6) 0) (nI s) = some (SS P K (RR P K) s) := by
  show rdI zC c 46 (nI s) = _
  rw [rdI_C (show s < 56 from hs), h.2.2.2.2.2.2.2.2.1.1 s hs]
theorem m_set (h : Base p P K c m) {s : Nat} (hs : s < 56) : rdI zM m (zrf zM 0 24) (nI s) = some (SS P K (RR P K) s) := by
  show rdI zM m 15 (nI s) = _
  rw [rdI_M (show s < 56 from hs), h.2.2.2.2.2.2.2.2.2.1 s hs]
theorem q_pointsTo (h : Base p P K c m) : QS (f_X9_pointsTo c 0 v) (f_X10_pointsTo m 0 v) m := by
  have hP := h.2.2.2.2.2.2.1
  unfold QS f_X9_pointsTo f_X10_pointsTo
  rw [h.rp, Option.bind_some, Option.bind_some, m_index h.m0, Option.bind_some, c_slot h]
  rcases slI_cases (P := P) (v := v) hP with e | ⟨s, hs, e⟩
  · rw [e]; exact ⟨-1, rfl, rfl⟩
  · have := hs.lt hP
    rw [e, if_neg (n_m1 (by omega)), if_neg (n_neg (by omega)), c_set h (by omega), m_set h.m0 (by omega)]
    exact ⟨_, rfl, rfl⟩
theorem q_commonObjects (h : Base p P K c m) : QS (f_X9_commonObjects c 0 v u) (f_X10_commonObjects m 0 v u) m := by
  have hP := h.2.2.2.2.2.2.1
  unfold QS f_X9_commonObjects f_X10_commonObjects
  rw [h.rp, Option.bind_some, Option.bind_some, Option.bind_some, m_index h.m0, Option.bind_some, m_index h.m0, Option.bind_some, c_slot h, c_slot h]
  rcases slI_cases (P := P) (v := v) hP with e | ⟨s, hs, e⟩
  · rw [e, if_pos (Or.inl rfl), if_pos (Or.inl (by decide))]; exact ⟨-1, rfl, rfl⟩
  · have := hs.lt hP
    rcases slI_cases (P := P) (v := u) hP with e2 | ⟨t, ht, e2⟩
    · rw [e2, if_pos (Or.inr rfl), if_pos (Or.inr (by decide))]; exact ⟨-1, rfl, rfl⟩
    · have := ht.lt hP
      rw [e, e2, if_neg (fun z => z.elim (n_m1 (by omega)) (n_m1 (by omega))), if_neg (fun z => z.elim (n_neg (by omega)) (n_neg (by omega))), c_set h (by omega), c_set h (by omega), m_set h.m0 (by omega), m_set h.m0 (by omega)]
      exact ⟨_, rfl, rfl⟩
/-- a set out of the slots of the variables -/
def vset16 (T : Nat → Int32) (o n : Nat) : Int32 := mkI (fun s => bt (T s) o) n
theorem mkI_succ (q : Nat → Bool) (n : Nat) : mkI q (n + 1) = mkI q n ||| (if q n = true then jshl 1 (nI n) else 0) := rfl
theorem or_zero (x : Int32) : x ||| 0 = x := b_ext fun i _ => by rw [b_or, b_0, Bool.or_false]
theorem mkI_stop {q : Nat → Bool} {n k : Nat} (h : n ≤ k) (hq : ∀ j, n ≤ j → j < k → q j = false) : mkI q k = mkI q n := by
  induction k with
  | zero => have : n = 0 := by omega
            rw [this]
  | succ k ih =>
    by_cases e : n = k + 1
    · rw [e]
    · rw [mkI_succ, hq k (by omega) (by omega), if_neg (by decide), or_zero, ih (by omega) fun j a b => hq j a (by omega)]
end SQ
