/-! The most influential constraint, the redundant ones, the necessary ones. -/
section IN
variable {p : Nat} {P : PK} {K : CK} {c c' m m' : Wd} {v u : Int32} {i : Nat}
theorem m_isEn (h : Base p P K c m) (hi : i < 32) : f_X10_isEnabled m 0 (nI i) = some (bt (en K) i) := m_isEnabled h.2.2.2.2.2.1 hi
theorem cntT_lt (T : Nat → Int32) : cntT T ≤ 560 := cn_le _ _
theorem q_mostInfluentialConstraint (h : Base p P K c m) : QT p P K c m (f_X9_mostInfluentialConstraint c 0) (f_X10_mostInfluentialConstraint m 0) := by
  have hP := h.2.2.2.2.2.2.1
  have hK := h.2.2.2.2.2.2.2.1
  have h30 := hK.1
  -- the best after i constraints: index and facts that stay
  have key : ∃ f : Nat → Int32 × Nat, f 0 = (-2, cntT (LF P K)) ∧ ∀ i, f (i + 1) = if bt (en K) i = true ∧ cntT (LF P (setE K (wo K i))) < (f i).2 then (nI i, cntT (LF P (setE K (wo K i)))) else f i :=
    ⟨fun i => Nat.rec (-2, cntT (LF P K)) (fun i r => if bt (en K) i = true ∧ cntT (LF P (setE K (wo K i))) < r.2 then (nI i, cntT (LF P (setE K (wo K i)))) else r) i, rfl, fun _ => rfl⟩
  obtain ⟨f, f0, fS⟩ := key
  have fle : ∀ i, i ≤ 30 → (f i).2 ≤ cntT (LF P K) := by
    intro i
    induction i with
    | zero => intro _; rw [f0]; exact Nat.le_refl _
    | succ i ih =>
      intro hi
      rw [fS]
      have := ih (by omega)
      split
      · rename_i q; exact Nat.le_trans (Nat.le_of_lt q.2) this
      · exact this
  have hc : wp (lp (b_X9_mostInfluentialConstraint_1 0) NF ((-2 : Int32), (0 : Int32), (0 : Int32), c)) (fun r => r.1 = (f (nc K)).1 ∧ CWt c r.2.2 ∧ Base p P K r.2.2 m) := by
    refine lp_inv (fun i s => s.2.2.1 = nI i ∧ s.1 = (f i).1 ∧ s.2.1 = nI (cntT (LF P K) - (f i).2) ∧ CWt c s.2.2.2 ∧ Base p P K s.2.2.2 m) _ (nc K) ?_ ?_ (by unfold NF; omega) ⟨rfl, by rw [f0], by rw [f0, Nat.sub_self]; rfl, CWt.refl c, h⟩
    · rintro i ⟨a, b, si, w⟩ hi ⟨h1, h2, h3, h4, h5⟩
      dsimp only at h1 h2 h3 h4 h5
      subst h1; subst h2; subst h3
      have hl := cntT_lt (LF P K)
      have hfl := fle i (by omega)
      have hw := cnt_wo_le (P := P) hP hK (show i < 32 by omega)
      unfold b_X9_mostInfluentialConstraint_1
      dsimp only
      rw [h5.rp, Option.bind_some, zp6 h5.1, h5.2.2.2.1.1, if_pos ((n_lt (by omega) (by omega)).mpr hi), Option.bind_some, c_isEnabled h5 (by omega)]
      cases he : bt (en K) i with
      | false =>
        rw [if_neg (by decide), Option.bind_some, wp_some]
        have e : f (i + 1) = f i := by rw [fS, if_neg (fun z => by rw [he] at z; exact Bool.false_ne_true z.1)]
        exact ⟨nI_1 i, by rw [e], by rw [e], h4, h5⟩
      | true =>
        obtain ⟨c', e1, e2, e3⟩ := c_lost h5 hi
        rw [if_pos rfl, e1, Option.bind_some]
        dsimp only
        by_cases hlt : cntT (LF P (setE K (wo K i))) < (f i).2
        · have e : f (i + 1) = (nI i, cntT (LF P (setE K (wo K i)))) := by rw [fS, if_pos ⟨he, hlt⟩]
          rw [if_pos ((n_lt (by omega) (by omega)).mpr (by omega)), Option.bind_some, Option.bind_some, wp_some]
          exact ⟨nI_1 i, by rw [e], by rw [e], h4.trans e2, e3⟩
        · have e : f (i + 1) = f i := by rw [fS, if_neg (fun z => hlt z.2)]
          rw [if_neg (fun z => hlt (by have := (n_lt (by omega) (by omega)).mp z; omega)), Option.bind_some, Option.bind_some, wp_some]
          exact ⟨nI_1 i, by rw [e], by rw [e], h4.trans e2, e3⟩
    · rintro ⟨a, b, si, w⟩ ⟨h1, h2, h3, h4, h5⟩
      dsimp only at h1 h2 h3 h4 h5
      subst h1; subst h2; subst h3
      unfold b_X9_mostInfluentialConstraint_1
      dsimp only
      rw [h5.rp, Option.bind_some, zp6 h5.1, h5.2.2.2.1.1, if_neg (fun z => Nat.lt_irrefl _ ((n_lt (by omega) (by omega)).mp z)), wp_some]
      exact ⟨rfl, h4, h5⟩
  obtain ⟨⟨rc1, rc2, c'⟩, hc1, hc2, hc3, hc4⟩ := hc
  dsimp only at hc2 hc3 hc4
  have hm : wp (lp (b_X10_mostInfluentialConstraint_1 0) NF ((-2 : Int32), nI (cntT (LF P K)), (0 : Int32), wsI m 0 0 0)) (fun r => r.1 = (f (nc K)).1 ∧ MW m r.2.2 ∧ Base p P K c' r.2.2) := by
    refine lp_inv (fun i s => s.2.2.1 = nI i ∧ s.1 = (f i).1 ∧ s.2.1 = nI (f i).2 ∧ MW m s.2.2.2 ∧ Base p P K c' s.2.2.2) _ (nc K) ?_ ?_ (by unfold NF; omega) ⟨rfl, by rw [f0], by rw [f0], MW.m0 m, hc4.m0⟩
    · rintro i ⟨a, b, si, w⟩ hi ⟨h1, h2, h3, h4, h5⟩
      dsimp only at h1 h2 h3 h4 h5
      subst h1; subst h2; subst h3
      have hl := cntT_lt (LF P K)
      have hl2 := cntT_lt (LF P (setE K (wo K i)))
      have hfl := fle i (by omega)
      unfold b_X10_mostInfluentialConstraint_1
      dsimp only
      rw [m_count h5.2.2.2.2.2.1, Option.bind_some, if_pos ((n_lt (by omega) (by omega)).mpr hi), m_isEn h5 (by omega), Option.bind_some]
      cases he : bt (en K) i with
      | false =>
        rw [if_pos (by decide), wp_some]
        have e : f (i + 1) = f i := by rw [fS, if_neg (fun z => by rw [he] at z; exact Bool.false_ne_true z.1)]
        exact ⟨nI_1 i, by rw [e], by rw [e], h4, h5⟩
      | true =>
        obtain ⟨m', e1, e2, e3⟩ := m_factsWith h5 (wo_ok hK (show i < 32 by omega))
        rw [if_neg (show ¬ ¬ (true = true) from fun z => z rfl), m_en h5, Option.bind_some]
        show wp (Option.bind (f_X10_factsWith w 0 (wo K i)) _) _
        rw [e1, Option.bind_some]
        dsimp only
        by_cases hlt : cntT (LF P (setE K (wo K i))) < (f i).2
        · have e : f (i + 1) = (nI i, cntT (LF P (setE K (wo K i)))) := by rw [fS, if_pos ⟨he, hlt⟩]
          rw [if_neg (fun z => by have := (n_le (by omega) (by omega)).mp z; omega), wp_some]
          exact ⟨nI_1 i, by rw [e], by rw [e], h4.trans e2, e3⟩
        · have e : f (i + 1) = f i := by rw [fS, if_neg (fun z => hlt z.2)]
          rw [if_pos ((n_le (by omega) (by omega)).mpr (by omega)), wp_some]
          exact ⟨nI_1 i, by rw [e], by rw [e], h4.trans e2, e3⟩
    · rintro ⟨a, b, si, w⟩ ⟨h1, h2, h3, h4, h5⟩
      dsimp only at h1 h2 h3 h4 h5
      subst h1; subst h2; subst h3
      unfold b_X10_mostInfluentialConstraint_1
      dsimp only
      rw [m_count h5.2.2.2.2.2.1, Option.bind_some, if_neg (fun z => Nat.lt_irrefl _ ((n_lt (by omega) (by omega)).mp z)), wp_some]
      exact ⟨rfl, h4, h5⟩
  obtain ⟨⟨rm1, rm2, m'⟩, hm1, hm2, hm3, hm4⟩ := hm
  dsimp only at hm2 hm3 hm4
  refine ⟨(f (nc K)).1, c', m', ?_, ?_, hm4, hc3, hm3⟩
  · unfold f_X9_mostInfluentialConstraint
    rw [hc1, Option.bind_some]
    dsimp only
    rw [hc2]
  · unfold f_X10_mostInfluentialConstraint
    rw [Option.bind_some, m_factsT h.m0.2.2.2.2.2.2.2.2.2.1 (fun k o q => SS_10 hP hK q), Option.bind_some]
    show Option.bind (lp (b_X10_mostInfluentialConstraint_1 0) NF (-2, nI (cntT (LF P K)), 0, wsI m 0 0 0)) _ = _
    rw [hm1, Option.bind_some]
    dsimp only
    rw [hm2]
theorem q_redundantConstraintCount (h : Base p P K c m) : QT p P K c m (f_X9_redundantConstraintCount c 0) (f_X10_redundantConstraintCount m 0) := by
  have hP := h.2.2.2.2.2.2.1
  have hK := h.2.2.2.2.2.2.2.1
  have h30 := hK.1
  have key : ∃ q : Nat → Bool, ∀ i, q i = true ↔ bt (en K) i = true ∧ cntT (LF P (setE K (wo K i))) = cntT (LF P K) := ⟨fun i => @decide _ (Classical.propDecidable (bt (en K) i = true ∧ cntT (LF P (setE K (wo K i))) = cntT (LF P K))), fun i => by simp⟩
  obtain ⟨q, hq⟩ := key
  have hc : wp (lp (b_X9_redundantConstraintCount_1 0) NF ((0 : Int32), (0 : Int32), c)) (fun r => r.1 = nI (cn q (nc K)) ∧ CWt c r.2 ∧ Base p P K r.2 m) := by
    refine lp_inv (fun i s => s.2.1 = nI i ∧ s.1 = nI (cn q i) ∧ CWt c s.2.2 ∧ Base p P K s.2.2 m) _ (nc K) ?_ ?_ (by unfold NF; omega) ⟨rfl, rfl, CWt.refl c, h⟩
    · rintro i ⟨a, si, w⟩ hi ⟨h1, h2, h4, h5⟩
      dsimp only at h1 h2 h4 h5
      subst h1; subst h2
      have hl := cntT_lt (LF P K)
      have hw := cnt_wo_le (P := P) hP hK (show i < 32 by omega)
      unfold b_X9_redundantConstraintCount_1
      dsimp only
      rw [h5.rp, Option.bind_some, zp6 h5.1, h5.2.2.2.1.1, if_pos ((n_lt (by omega) (by omega)).mpr hi), Option.bind_some, c_isEnabled h5 (by omega)]
      cases he : bt (en K) i with
      | false =>
        rw [if_neg (by decide), Option.bind_some]
        dsimp only
        rw [if_neg (by decide), Option.bind_some, wp_some]
        have hqf : ¬ q i = true := fun z => by have := ((hq i).mp z).1; rw [he] at this; cases this
        exact ⟨nI_1 i, by rw [cn, if_neg hqf]; rfl, h4, h5⟩
      | true =>
        obtain ⟨c', e1, e2, e3⟩ := c_lost h5 hi
        rw [if_pos rfl, e1, Option.bind_some]
        dsimp only
        by_cases hz : cntT (LF P (setE K (wo K i))) = cntT (LF P K)
        · rw [if_pos (show nI (cntT (LF P K) - cntT (LF P (setE K (wo K i)))) = (0 : Int32) by rw [hz, Nat.sub_self]; rfl), Option.bind_some]
          dsimp only
          rw [if_pos rfl, Option.bind_some, wp_some]
          exact ⟨nI_1 i, by rw [cn, if_pos ((hq i).mpr ⟨he, hz⟩)]; exact nI_1 _, h4.trans e2, e3⟩
        · rw [if_neg (show ¬ nI (cntT (LF P K) - cntT (LF P (setE K (wo K i)))) = (0 : Int32) from fun z => by have := (n_eq (b := 0) (by omega) (by omega)).mp z; omega), Option.bind_some]
          dsimp only
          rw [if_neg (by decide), Option.bind_some, wp_some]
          exact ⟨nI_1 i, by rw [cn, if_neg (fun z => hz ((hq i).mp z).2)]; rfl, h4.trans e2, e3⟩
    · rintro ⟨a, si, w⟩ ⟨h1, h2, h4, h5⟩
      dsimp only at h1 h2 h4 h5
      subst h1; subst h2
      unfold b_X9_redundantConstraintCount_1
      dsimp only
      rw [h5.rp, Option.bind_some, zp6 h5.1, h5.2.2.2.1.1, if_neg (fun z => Nat.lt_irrefl _ ((n_lt (by omega) (by omega)).mp z)), wp_some]
      exact ⟨rfl, h4, h5⟩
  obtain ⟨⟨rc1, c'⟩, hc1, hc2, hc3, hc4⟩ := hc
  dsimp only at hc2 hc3 hc4
  have hm : wp (lp (b_X10_redundantConstraintCount_1 0 (nI (cntT (LF P K)))) NF ((0 : Int32), (0 : Int32), wsI m 0 0 0)) (fun r => r.1 = nI (cn q (nc K)) ∧ MW m r.2 ∧ Base p P K c' r.2) := by
    refine lp_inv (fun i s => s.2.1 = nI i ∧ s.1 = nI (cn q i) ∧ MW m s.2.2 ∧ Base p P K c' s.2.2) _ (nc K) ?_ ?_ (by unfold NF; omega) ⟨rfl, rfl, MW.m0 m, hc4.m0⟩
    · rintro i ⟨a, si, w⟩ hi ⟨h1, h2, h4, h5⟩
      dsimp only at h1 h2 h4 h5
      subst h1; subst h2
      have hl := cntT_lt (LF P K)
      have hl2 := cntT_lt (LF P (setE K (wo K i)))
      unfold b_X10_redundantConstraintCount_1
      dsimp only
      rw [m_count h5.2.2.2.2.2.1, Option.bind_some, if_pos ((n_lt (by omega) (by omega)).mpr hi), m_isEn h5 (by omega), Option.bind_some]
      cases he : bt (en K) i with
      | false =>
        rw [if_neg (by decide), Option.bind_some]
        dsimp only
        rw [if_neg (by decide), Option.bind_some, wp_some]
        have hqf : ¬ q i = true := fun z => by have := ((hq i).mp z).1; rw [he] at this; cases this
        exact ⟨nI_1 i, by rw [cn, if_neg hqf]; exact nI_add _ 0, h4, h5⟩
      | true =>
        obtain ⟨m', e1, e2, e3⟩ := m_factsWith h5 (wo_ok hK (show i < 32 by omega))
        rw [if_pos rfl, m_en h5, Option.bind_some]
        show wp (Option.bind (Option.bind (Option.bind (f_X10_factsWith w 0 (wo K i)) _) _) _) _
        rw [e1, Option.bind_some]
        dsimp only
        by_cases hz : cntT (LF P (setE K (wo K i))) = cntT (LF P K)
        · rw [if_pos (by rw [hz]), Option.bind_some]
          dsimp only
          rw [if_pos rfl, Option.bind_some, wp_some]
          exact ⟨nI_1 i, by rw [cn, if_pos ((hq i).mpr ⟨he, hz⟩)]; exact nI_1 _, h4.trans e2, e3⟩
        · rw [if_neg (fun z => hz ((n_eq (by omega) (by omega)).mp z)), Option.bind_some]
          dsimp only
          rw [if_neg (by decide), Option.bind_some, wp_some]
          exact ⟨nI_1 i, by rw [cn, if_neg (fun z => hz ((hq i).mp z).2)]; exact nI_add _ 0, h4.trans e2, e3⟩
    · rintro ⟨a, si, w⟩ ⟨h1, h2, h4, h5⟩
      dsimp only at h1 h2 h4 h5
      subst h1; subst h2
      unfold b_X10_redundantConstraintCount_1
      dsimp only
      rw [m_count h5.2.2.2.2.2.1, Option.bind_some, if_neg (fun z => Nat.lt_irrefl _ ((n_lt (by omega) (by omega)).mp z)), wp_some]
      exact ⟨rfl, h4, h5⟩
  obtain ⟨⟨rm1, m'⟩, hm1, hm2, hm3, hm4⟩ := hm
  dsimp only at hm2 hm3 hm4
  refine ⟨nI (cn q (nc K)), c', m', ?_, ?_, hm4, hc3, hm3⟩
  · unfold f_X9_redundantConstraintCount
    rw [hc1, Option.bind_some]
    dsimp only
    rw [hc2]
  · unfold f_X10_redundantConstraintCount
    rw [Option.bind_some, m_factsT h.m0.2.2.2.2.2.2.2.2.2.1 (fun k o q => SS_10 hP hK q), Option.bind_some]
    show Option.bind (lp (b_X10_redundantConstraintCount_1 0 (nI (cntT (LF P K)))) NF (0, 0, wsI m 0 0 0)) _ = _
    rw [hm1, Option.bind_some]
    dsimp only
    rw [hm2]
end IN
