-- deps: b8 a1
/-! The law is true: its functions' run. -/
theorem lawA_ok : ∃ wz m, f_L_lawA wC0 = some wz ∧ wz.1 1 1 = 0 ∧ RW wz m := by
  obtain ⟨w1, -, h⟩ := start_w
  have hv := lawA_v
  cases hA : f_L_lawA wC0 with
  | none => rw [hA] at hv; cases hv
  | some wz =>
    rw [hA] at hv
    have h0 : wz.1 1 1 = 0 := Option.some.inj hv
    unfold f_L_lawA at hA
    by_cases c1 : ¬ f_X9_factCount wC0 0 = 0
    · rw [if_pos c1] at hA; cases hA
    · rw [if_neg c1] at hA
      obtain ⟨x2, -, hA⟩ := Option.bind_eq_some_iff.mp hA
      by_cases c2 : ¬ x2 = (-1 : Int32)
      · rw [if_pos c2] at hA; cases hA
      · rw [if_neg c2] at hA
        obtain ⟨x4, e4, hA⟩ := Option.bind_eq_some_iff.mp hA
        obtain ⟨p, P, K, V, O, hW⟩ := h
        obtain ⟨r, c', m', g1, g2, g3⟩ := Q2.gr hW (q_condensedNodeCount hW.1.1 hW.2.2.2.2.2.1)
        obtain rfl : x4 = (r, c') := Option.some.inj (e4.symm.trans g1)
        by_cases c3 : ¬ (r, c').1 = 0
        · rw [if_pos c3] at hA; cases hA
        · rw [if_neg c3] at hA
          obtain ⟨x6, e6, hA⟩ := Option.bind_eq_some_iff.mp hA
          obtain ⟨r2, c2', m2, f1, f2, f3⟩ := q_parse (v := (1 : Int32)) g3
          obtain rfl : x6 = (r2, c2') := Option.some.inj (e6.symm.trans f1)
          by_cases c4 : (r2, c2').1 = (-1 : Int32)
          · rw [if_pos c4] at hA
            obtain rfl : c2' = wz := Option.some.inj hA
            exact ⟨_, m2, rfl, h0, f3⟩
          · rw [if_neg c4] at hA; cases hA
theorem laws_ok : ∃ wz, f_L_lawA wC0 = some wz ∧ ∀ (t : List Nat) (k : Nat) (f : Nat → Int32), ProgOK t k → 3 ≤ k → k ≤ 10 → (∀ j, j < t.length → f j = nI (t.getD j 0)) → ∃ r w2, f_L_load wz t.length f = some (r, w2) ∧ f_L_lawB w2 r = some () := by
  obtain ⟨wz, m, h1, h2, h3⟩ := lawA_ok
  refine ⟨wz, h1, fun t k f hP hk3 hk10 hf => ?_⟩
  obtain ⟨c2, m2, p, P, K, V, O, g1, g2, g3, g4⟩ := load_fwd h3 h2 hP hk10 hf
  refine ⟨nI k, c2, g1, lawB_fwd g2.1.1 g4 g3 hk3 hk10 fun fa fs hfa hfs => ?_⟩
  obtain ⟨w', e1, e2⟩ := edges_fwd ⟨g2.1.1, g2.2.2.2.2.2.1⟩ hfa hfs
  exact ⟨w', e1, e2.1⟩
