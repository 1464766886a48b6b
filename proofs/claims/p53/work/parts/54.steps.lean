/-! Steps of an explanation. -/
section ST
variable {p : Nat} {P : PK} {K : CK} {c m m0 m' : Wd} {k o n i j L s : Nat} {v u t : Int32}
/-- the class walks to step j of a chain -/
theorem c_walk (h : Base p P K c m) (hc : Chain P K o s L) (hj : j < L) (hL : L < 600) : lp (b_X9_findStep_1 (nI j) c 0 (nI o)) NF (nI (10 * s + o), 0) = some (.inl (nI (10 * cs P K o j s + o))) := by
  obtain ⟨c1, c2, c3, c4⟩ := hc
  have hP := h.2.2.2.2.2.2.1
  have hK := h.2.2.2.2.2.2.2.1
  have hS := h.2.2.2.2.2.2.2.2.1
  have hn := hP.2.1
  refine wp_is (lp_inv (fun (i : Nat) (q : Int32 × Int32) => q.2 = nI i ∧ q.1 = nI (10 * cs P K o i s + o)) (fun (q : Int32 ⊕ Int32) => q = Sum.inl (nI (10 * cs P K o j s + o))) j ?_ ?_ (show j < NF by unfold NF; omega) ⟨rfl, rfl⟩)
  · rintro i ⟨a, b⟩ hi ⟨h1, h2⟩
    dsimp only at h1 h2
    subst h1; subst h2
    have hf := c2 i (by omega)
    have ok := LF_ok hP hK _ _ hf
    have hf2 := c2 (i + 1) (by omega)
    have ok2 := LF_ok hP hK _ _ hf2
    rw [cs_succ] at ok2
    have st := (hS.2.1 _ o ok.1 (by omega) hf).2.2.1
    rw [if_neg (show ¬ kd K (pd P K (cs P K o i s) o / 20) = 0 from c3 i (by omega))] at st
    unfold b_X9_findStep_1
    dsimp only
    rw [if_pos ((n_lt (by omega) (by omega)).mpr hi)]
    show wp (Option.bind (rdI zC c 50 (nI (10 * cs P K o i s + o))) _) _
    rw [rdI_C (show 10 * cs P K o i s + o < 560 by omega), Option.bind_some, st]
    show wp (if nI (nxs P K o (cs P K o i s)) = -1 then _ else some (Sum.inl (f_X9_factOf (nI (nxs P K o (cs P K o i s))) (nI o), _))) _
    rw [if_neg (n_m1 (by omega)), factOf_n, wp_some]
    exact ⟨nI_1 i, by dsimp only; rw [cs_succ]⟩
  · rintro ⟨a, b⟩ ⟨h1, h2⟩
    dsimp only at h1 h2
    subst h1; subst h2
    unfold b_X9_findStep_1
    dsimp only
    rw [if_neg (fun z => Nat.lt_irrefl _ ((n_lt (by omega) (by omega)).mp z)), wp_some]
    rfl
/-- what a step's query finds in class and reference -/
theorem step_cases (h : Base p P K c m) : (∃ x : Int32, (x = -1 ∨ x = -2) ∧ f_X9_findStep c 0 v u t = some x ∧ ∃ m', f_X10_whyNoStep (wsI m 0 0 0) 0 v u t = some (x, m') ∧ MD (wsI m 0 0 0) m') ∨
    ∃ k o, bt (LF P K k) o = true ∧ f_X9_findStep c 0 v u t = some (nI (10 * k + o)) ∧ ∃ m', f_X10_whyNoStep (wsI m 0 0 0) 0 v u t = some (0, m') ∧ MD (wsI m 0 0 0) m' ∧ PrimW P K k o m' := by
  have hP := h.2.2.2.2.2.2.1
  have hK := h.2.2.2.2.2.2.2.1
  have hn := hP.2.1
  unfold f_X9_findStep f_X10_whyNoStep
  rw [m_index h.m0]
  rcases find_cases (v := v) (u := u) h.m0 with ⟨h1, h2⟩ | ⟨s, o, hs, ho, hv, rfl, h2, h1⟩
  · rw [h1, h2]; exact Or.inl ⟨-1, Or.inl rfl, rfl, _, rfl, MD.refl _⟩
  · have hs56 := hs.lt hP
    rw [h1, h2, hv, Option.bind_some, Option.bind_some, Option.bind_some, m_isFact h.m0 (by omega) (by omega), Option.bind_some]
    by_cases ht : t < 0
    · rw [if_pos (Or.inr ht), if_pos (Or.inr ht)]
      exact Or.inl ⟨-1, Or.inl rfl, rfl, _, rfl, MD.refl _⟩
    · obtain ⟨j, hj, rfl⟩ := nI_of ht
      rw [if_neg (show ¬ ((¬ (true = true)) ∨ nI j < 0) from fun z => z.elim (fun q => q rfl) ht)]
      cases hb : bt (SS P K (RR P K) s) o with
      | false =>
        rw [if_neg (show ¬ (false = true) by decide), if_neg (show ¬ ((-2 : Int32) = -1 ∨ nI j < 0) from fun z => z.elim (by decide) ht), if_pos (show (-2 : Int32) = -2 from rfl), Option.bind_some, if_pos rfl, if_pos (show ¬ (false = true) by decide)]
        exact Or.inl ⟨-2, Or.inr rfl, rfl, _, rfl, MD.refl _⟩
      | true =>
        obtain ⟨L, l1, l2, l3⟩ := chain_ex hP hK h.2.2.2.2.2.2.2.2.1 s o hb
        have hr := (rd_ok hP hK RR_lt hb).2.1
        have hRR := RR_lt (P := P) (K := K)
        obtain ⟨⟨a, m1⟩, e1, e2, e3, -⟩ := m_walk (t := -2) (v := v) h.m0 l2 (by omega) (Nat.le_refl L) (fun n hn => n_m2 (by omega)) (by rw [m_index h.m0, hv]) (Or.inl rfl)
        dsimp only at e2 e3
        subst e2
        rw [if_pos rfl, if_neg (show ¬ (nI (10 * s + o) = -1 ∨ nI j < 0) from fun z => z.elim (n_m1 (by omega)) ht), if_neg (n_m2 (by omega)), if_neg (show ¬ ¬ (true = true) from fun z => z rfl), e1, Option.bind_some]
        have hc52 : rdI zC c (zrf zC (zrf zC 0 6) 9) (nI (10 * s + o)) = some (nI L) := by
          show rdI zC c 52 _ = _
          rw [rdI_C (show 10 * s + o < 560 by omega), l3]
        rw [hc52, Option.bind_some]
        dsimp only
        by_cases hjL : j < L
        · obtain ⟨⟨a2, m2⟩, g1, g2, g3, g4⟩ := m_walk (t := nI j) (v := v) (h.m0.md e3) l2 (by omega) (Nat.le_of_lt hjL) (fun n hn z => by have := (n_eq (by omega) (by omega)).mp z; omega) (by rw [m_index (h.m0.md e3), hv]) (Or.inr ⟨hjL, rfl⟩)
          dsimp only at g2 g3 g4
          subst g2
          rw [if_neg (show ¬ nI L ≤ nI j from fun z => by have := (n_le (by omega) (by omega)).mp z; omega), Option.bind_some, if_neg (by decide), c_walk h l2 hjL (by omega), if_pos ((n_lt (by omega) (by omega)).mpr hjL), g1]
          exact Or.inr ⟨cs P K o j s, o, l2.2.1 j hjL, rfl, m2, by rw [Option.bind_some, if_pos rfl]; rfl, e3.trans g3, g4 hjL⟩
        · rw [if_pos (show nI L ≤ nI j from (nI_leI (by omega) hj).mpr (by omega)), Option.bind_some, if_pos rfl, if_neg (show ¬ nI j < nI L from fun z => by have := (nI_ltI hj (by omega)).mp z; omega)]
          exact Or.inl ⟨-2, Or.inr rfl, rfl, m1, rfl, e3⟩
theorem lt0_12 {x : Int32} (h : x = -1 ∨ x = -2) : x < 0 ∧ ¬ x = 0 := by rcases h with rfl | rfl <;> exact ⟨by decide, by decide⟩
theorem q_explanationConstraint (h : Base p P K c m) : QD m (f_X9_explanationConstraint c 0 v u t) (f_X10_explanationConstraint m 0 v u t) := by
  have hP := h.2.2.2.2.2.2.1
  have hK := h.2.2.2.2.2.2.2.1
  have hS := h.2.2.2.2.2.2.2.2.1
  have hn := hP.2.1
  unfold QD f_X9_explanationConstraint f_X10_explanationConstraint
  rw [Option.bind_some]
  rcases step_cases (v := v) (u := u) (t := t) h with ⟨x, hx, h1, m', h2, h3⟩ | ⟨k, o, hf, h1, m', h2, h3, h4, h5, h6⟩
  · obtain ⟨y1, y2⟩ := lt0_12 hx
    rw [h1, h2, Option.bind_some, Option.bind_some, if_pos y1, Option.bind_some]
    dsimp only
    rw [if_pos y2]
    exact ⟨x, m', rfl, rfl, h3⟩
  · have ok := LF_ok hP hK _ _ hf
    have st := (hS.2.1 k o ok.1 (by omega) hf).2.1
    rw [h1, h2, Option.bind_some, Option.bind_some, if_neg (n_neg (by omega))]
    refine ⟨nI (pd P K k o / 20), m', ?_, ?_, h3⟩
    · show Option.bind (Option.bind (rdI zC c 49 (nI (10 * k + o))) _) _ = _
      rw [rdI_C (show 10 * k + o < 560 by omega), st]; rfl
    · dsimp only
      rw [if_neg (fun z => z rfl), h4]
theorem q_explanationSource (h : Base p P K c m) : QD m (f_X9_explanationSource c 0 v u t) (f_X10_explanationSource m 0 v u t) := by
  have hP := h.2.2.2.2.2.2.1
  have hK := h.2.2.2.2.2.2.2.1
  have hS := h.2.2.2.2.2.2.2.2.1
  have hn := hP.2.1
  unfold QD f_X9_explanationSource f_X10_explanationSource
  rw [Option.bind_some]
  rcases step_cases (v := v) (u := u) (t := t) h with ⟨x, hx, h1, m', h2, h3⟩ | ⟨k, o, hf, h1, m', h2, h3, h4, h5, h6⟩
  · obtain ⟨y1, y2⟩ := lt0_12 hx
    rw [h1, h2, Option.bind_some, Option.bind_some, if_pos y1]
    dsimp only
    rw [if_pos y2]
    exact ⟨x, m', rfl, rfl, h3⟩
  · have ok := LF_ok hP hK _ _ hf
    have st := (hS.2.1 k o ok.1 (by omega) hf).2.2.1
    rw [h1, h2, Option.bind_some, Option.bind_some, if_neg (n_neg (by omega))]
    show ∃ r m'_1, Option.bind (rdI zC c 50 (nI (10 * k + o))) _ = _ ∧ _
    rw [rdI_C (show 10 * k + o < 560 by omega), st, Option.bind_some]
    dsimp only
    rw [if_neg (show ¬ ¬ ((0 : Int32) = 0) from fun z => z rfl), h6]
    by_cases hk : kd K (pd P K k o / 20) = 0
    · rw [if_pos hk, if_pos hk]
      exact ⟨-2, m', rfl, rfl, h3⟩
    · rw [if_neg hk, if_neg hk]
      obtain ⟨p1, p2, p3, p4, p5⟩ := fact_pd hP hK hf
      rcases p5 with ⟨q0, -⟩ | ⟨q0, q1, q2, q3, q4⟩
      · exact absurd q0 hk
      · have ok2 := SS_ok hP hK _ _ _ q4
        rw [if_neg (n_m1 (by omega)), if_neg (show ¬ nI (nxs P K o k) < 0 from n_neg (show fsr P K _ _ _ < 65536 by omega))]
        exact ⟨_, m', rfl, rfl, h3⟩
theorem q_explanationVia (h : Base p P K c m) : QD m (f_X9_explanationVia c 0 v u t) (f_X10_explanationVia m 0 v u t) := by
  have hP := h.2.2.2.2.2.2.1
  have hK := h.2.2.2.2.2.2.2.1
  have hS := h.2.2.2.2.2.2.2.2.1
  have hn := hP.2.1
  unfold QD f_X9_explanationVia f_X10_explanationVia
  rw [Option.bind_some]
  rcases step_cases (v := v) (u := u) (t := t) h with ⟨x, hx, h1, m', h2, h3⟩ | ⟨k, o, hf, h1, m', h2, h3, h4, h5, h6⟩
  · obtain ⟨y1, y2⟩ := lt0_12 hx
    rw [h1, h2, Option.bind_some, Option.bind_some, if_pos y1]
    dsimp only
    rw [if_pos y2]
    exact ⟨x, m', rfl, rfl, h3⟩
  · have ok := LF_ok hP hK _ _ hf
    have st := (hS.2.1 k o ok.1 (by omega) hf).2.2.2.1
    rw [h1, h2, Option.bind_some, Option.bind_some, if_neg (n_neg (by omega))]
    show ∃ r m'_1, Option.bind (rdI zC c 51 (nI (10 * k + o))) _ = _ ∧ _
    rw [rdI_C (show 10 * k + o < 560 by omega), st, Option.bind_some]
    dsimp only
    rw [if_neg (show ¬ ¬ ((0 : Int32) = 0) from fun z => z rfl), h5]
    by_cases hk : kd K (pd P K k o / 20) ≤ 1
    · rw [if_pos hk, if_pos hk]
      exact ⟨-2, m', rfl, rfl, h3⟩
    · rw [if_neg hk, if_neg hk, if_neg (n_m1 (by omega))]
      exact ⟨_, m', rfl, rfl, h3⟩
end ST
