/-! The necessary constraints of a fact. -/
section NE
variable {p : Nat} {P : PK} {K : CK} {c c' m m' : Wd} {v u : Int32} {i : Nat}
theorem q_necessaryConstraints (h : Base p P K c m) : QT p P K c m (f_X9_necessaryConstraints c 0 v u) (f_X10_necessaryConstraints m 0 v u) := by
  have hP := h.2.2.2.2.2.2.1
  have hK := h.2.2.2.2.2.2.2.1
  have hn := hP.2.1
  have h30 := hK.1
  unfold QT f_X9_necessaryConstraints f_X10_necessaryConstraints
  rw [Option.bind_some, m_index h.m0]
  rcases find_cases (v := v) (u := u) h.m0 with ⟨h1, h2⟩ | ⟨s, o, hs, ho, hv, rfl, h2, h1⟩
  · rw [h1, h2]; exact ⟨-1, c, _, rfl, rfl, h.m0, CWt.refl c, MW.m0 m⟩
  · have hs56 := hs.lt hP
    rw [h1, h2, hv, Option.bind_some, Option.bind_some, Option.bind_some, m_isFact h.m0 (by omega) (by omega), Option.bind_some, if_neg (show ¬ ¬ (true = true) from fun z => z rfl)]
    cases hb : bt (SS P K (RR P K) s) o with
    | false =>
      rw [if_neg (show ¬ (false = true) by decide), if_pos (show (-2 : Int32) < 0 by decide), if_pos (show ¬ (false = true) by decide)]
      exact ⟨0, c, _, rfl, rfl, h.m0, CWt.refl c, MW.m0 m⟩
    | true =>
      rw [if_pos rfl, if_neg (n_neg (by omega)), if_neg (show ¬ ¬ (true = true) from fun z => z rfl), h.rp, Option.bind_some]
      have hf : bt (LF P K s) o = true := hb
      let q : Nat → Bool := fun i => bt (en K) i && !bt (LF P (setE K (wo K i)) s) o
      have hc : wp (lp (b_X9_necessaryConstraints_1 0 (nI (10 * s + o)) c p v (nI o)) NF ((0 : Int32), (0 : Int32), c)) (fun r => r.1 = mkI q (nc K) ∧ CWt c r.2 ∧ Base p P K r.2 m) := by
        refine lp_inv (fun i t => t.2.1 = nI i ∧ t.1 = mkI q i ∧ CWt c t.2.2 ∧ Base p P K t.2.2 m) _ (nc K) ?_ ?_ (by unfold NF; omega) ⟨rfl, rfl, CWt.refl c, h⟩
        · rintro i ⟨a, si, w⟩ hi ⟨g1, g2, g3, g4⟩
          dsimp only at g1 g2 g3 g4
          subst g1; subst g2
          unfold b_X9_necessaryConstraints_1
          dsimp only
          rw [g4.rp, Option.bind_some, zp6 g4.1, g4.2.2.2.1.1, if_pos ((n_lt (by omega) (by omega)).mpr hi), Option.bind_some, Option.bind_some]
          show wp (Option.bind (Option.bind (rdI zC w 53 (nI (10 * s + o))) _) _) _
          rw [rdI_C (show 10 * s + o < 560 by omega), Option.bind_some, cont_bt (by omega)]
          cases hp : bt (w.1 53 (10 * s + o)) i with
          | false =>
            rw [if_neg (by decide), Option.bind_some, wp_some]
            have hq : q i = false := by
              show (bt (en K) i && !bt (LF P (setE K (wo K i)) s) o) = false
              rw [proof_wo hP hK g4.2.2.2.2.2.2.2.2.1 (by omega) s o hf hp]; simp
            exact ⟨nI_1 i, by rw [mkI_succ, hq, if_neg (by decide), or_zero], g3, g4⟩
          | true =>
            have hen := proof_en hP hK g4.2.2.2.2.2.2.2.2.1 (show i < 32 by omega) s o hf hp
            obtain ⟨c', e1, e2, e3, e4⟩ := c_with g4 (wo_ok hK (show i < 32 by omega))
            rw [if_pos rfl]
            show wp (Option.bind (Option.bind (f_X8_solve w 60 p (w.1 (zrf zC p 6) 5 &&& _)) _) _) _
            rw [c_en g4]
            show wp (Option.bind (Option.bind (f_X8_solve w 60 p (wo K i)) _) _) _
            rw [e1, Option.bind_some, c_slot h, hv]
            show wp (Option.bind (Option.bind (Option.bind (rdI zC c' 61 (nI s)) _) _) _) _
            rw [rdI_C (show s < 56 from hs56), Option.bind_some, cont_bt (by omega), e2 s hs56]
            have hq : q i = !bt (LF P (setE K (wo K i)) s) o := by
              show (bt (en K) i && !bt (LF P (setE K (wo K i)) s) o) = _
              rw [hen, Bool.true_and]
            cases hl : bt (LF P (setE K (wo K i)) s) o with
            | false =>
              rw [if_pos (by decide), Option.bind_some, Option.bind_some, wp_some]
              rw [hl] at hq
              exact ⟨nI_1 i, by rw [mkI_succ, hq]; rfl, g3.trans e3, e4⟩
            | true =>
              rw [if_neg (fun z => z rfl), Option.bind_some, Option.bind_some, wp_some]
              rw [hl] at hq
              exact ⟨nI_1 i, by rw [mkI_succ, hq, if_neg (by decide), or_zero], g3.trans e3, e4⟩
        · rintro ⟨a, si, w⟩ ⟨g1, g2, g3, g4⟩
          dsimp only at g1 g2 g3 g4
          subst g1; subst g2
          unfold b_X9_necessaryConstraints_1
          dsimp only
          rw [g4.rp, Option.bind_some, zp6 g4.1, g4.2.2.2.1.1, if_neg (fun z => Nat.lt_irrefl _ ((n_lt (by omega) (by omega)).mp z)), wp_some]
          exact ⟨rfl, g3, g4⟩
      obtain ⟨⟨rc1, c'⟩, hc1, hc2, hc3, hc4⟩ := hc
      dsimp only at hc2 hc3 hc4
      have hm : wp (lp (b_X10_necessaryConstraints_1 0 (nI s) (nI o)) NF ((0 : Int32), (0 : Int32), wsI m 0 0 0)) (fun r => r.1 = mkI q (nc K) ∧ MW m r.2 ∧ Base p P K c' r.2) := by
        refine lp_inv (fun i t => t.2.1 = nI i ∧ t.1 = mkI q i ∧ MW m t.2.2 ∧ Base p P K c' t.2.2) _ (nc K) ?_ ?_ (by unfold NF; omega) ⟨rfl, rfl, MW.m0 m, hc4.m0⟩
        · rintro i ⟨a, si, w⟩ hi ⟨g1, g2, g3, g4⟩
          dsimp only at g1 g2 g3 g4
          subst g1; subst g2
          unfold b_X10_necessaryConstraints_1
          dsimp only
          rw [m_count g4.2.2.2.2.2.1, Option.bind_some, if_pos ((n_lt (by omega) (by omega)).mpr hi), m_isEn g4 (by omega), Option.bind_some]
          cases he : bt (en K) i with
          | false =>
            rw [if_pos (by decide), wp_some]
            have hq : q i = false := by
              show (bt (en K) i && _) = false
              rw [he]; rfl
            exact ⟨nI_1 i, by rw [mkI_succ, hq, if_neg (by decide), or_zero], g3, g4⟩
          | true =>
            obtain ⟨d, e1, e2, m', e3, e4, e5⟩ := m_with g4 (wo_ok hK (show i < 32 by omega))
            rw [if_neg (show ¬ ¬ (true = true) from fun z => z rfl), m_en g4, Option.bind_some]
            show wp (Option.bind (f_X10_solveWith w 0 (wo K i)) _) _
            rw [e1, Option.bind_some]
            unfold f_X10_isFact
            show wp (Option.bind (Option.bind (rdI zM d 15 (nI s)) _) _) _
            rw [rdI_M (show s < 56 from hs56), Option.bind_some, Option.bind_some, e2 s hs56, has_bt (by omega), e3, Option.bind_some, wp_some]
            have hq : q i = !bt (LF P (setE K (wo K i)) s) o := by
              show (bt (en K) i && !bt (LF P (setE K (wo K i)) s) o) = _
              rw [he, Bool.true_and]
            refine ⟨nI_1 i, ?_, g3.trans e4, e5⟩
            dsimp only
            rw [mkI_succ, hq]
            cases bt (LF P (setE K (wo K i)) s) o <;> rfl
        · rintro ⟨a, si, w⟩ ⟨g1, g2, g3, g4⟩
          dsimp only at g1 g2 g3 g4
          subst g1; subst g2
          unfold b_X10_necessaryConstraints_1
          dsimp only
          rw [m_count g4.2.2.2.2.2.1, Option.bind_some, if_neg (fun z => Nat.lt_irrefl _ ((n_lt (by omega) (by omega)).mp z)), wp_some]
          exact ⟨rfl, g3, g4⟩
      obtain ⟨⟨rm1, m'⟩, hm1, hm2, hm3, hm4⟩ := hm
      dsimp only at hm2 hm3 hm4
      refine ⟨mkI q (nc K), c', m', ?_, ?_, hm4, hc3, hm3⟩
      · rw [hc1, Option.bind_some]
        dsimp only
        rw [hc2]
      · rw [hm1, Option.bind_some]
        dsimp only
        rw [hm2]
end NE
