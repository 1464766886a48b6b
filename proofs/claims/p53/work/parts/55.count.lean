/-! How many derivations a fact has. -/
theorem cn_tail {q : Nat → Bool} {a n : Nat} (h : a ≤ n) (hq : ∀ j, a ≤ j → j < n → q j = false) : cn q n = cn q a := by
  induction n with
  | zero => have : a = 0 := by omega
            rw [this]
  | succ n ih =>
    by_cases e : a = n + 1
    · rw [e]
    · rw [cn, hq n (by omega) (by omega), if_neg (by decide), Nat.add_zero, ih (by omega) fun j h1 h2 => hq j h1 (by omega)]
section DCT
variable {p : Nat} {P : PK} {K : CK} {c m m0 m' : Wd} {k o n i j L s : Nat} {v u t : Int32} {T U : Nat → Int32}
theorem vset_congr (hP : PWF P) (hK : CWF P K) (hi : i < nc K) (h : ∀ k, k < 56 → T k = U k) : vset P K T i = vset P K U i := by
  refine b_ext fun x hx => ?_
  cases h1 : bt (vset P K T i) x with
  | true => rw [vset_mono hP hK hi (fun a b ha _ hb => by rw [← h a ha]; exact hb) h1]
  | false =>
    cases h2 : bt (vset P K U i) x with
    | false => rfl
    | true => rw [vset_mono hP hK hi (fun a b ha _ hb => by rw [h a ha]; exact hb) h2] at h1; cases h1
theorem c_countDer (h : Base p P K c m) (hi : i < nc K) (he : bt (en K) i = true) (hk56 : k < 56) (ho : o < 10) : f_X7_countDerivations c 45 p (nI i) (nI k) (nI o) = some (nI (cn (fun j => dvn P K (LF P K) k o (20 * i + j)) 20)) := by
  have hP := h.2.2.2.2.2.2.1
  have hK := h.2.2.2.2.2.2.2.1
  have hno := hP.2.1
  have h30 := hK.1
  have hnv := hP.1
  have hp := h.1
  have hL := h.2.2.2.1
  have hRP := h.2.2.1
  obtain ⟨g0, g1, g2, g3, g4, g5, g6⟩ := hK.2.2 i hi
  unfold f_X7_countDerivations
  rw [zp6 hp, zl0 hp.LC, zl1 hp.LC, zl2 hp.LC, r_k1 hp.LC hL h30 hi, r_k2 hp.LC hL h30 hi, r_k3 hp.LC hL h30 hi, Option.bind_some, Option.bind_some, Option.bind_some]
  by_cases hk : kd K i = 0
  · have hb := g2 hk
    have hdv : dvn P K (LF P K) k o (20 * i + 0) = decide (ka K i = k ∧ kb K i = o) := dvn_new hi he hk
    rw [cn_tail (a := 1) (by omega) (fun j h1 h2 => dvn_new0 (i := i) (by omega) (by omega) hk), show nI (kd K i) = (0 : Int32) by rw [hk]; rfl, if_pos rfl]
    rw [cn, hdv, cn]
    by_cases e : ka K i = k
    · rw [if_pos (show nI (ka K i) = nI k by rw [e])]
      by_cases e2 : kb K i = o
      · rw [if_pos (show nI (kb K i) = nI o by rw [e2]), decide_eq_true ⟨e, e2⟩]; rfl
      · rw [if_neg (fun z => e2 ((n_eq (by omega) (by omega)).mp z)), decide_eq_false (fun z => e2 z.2)]; rfl
    · rw [if_neg (fun z => e ((n_eq (by omega) (by omega)).mp z)), decide_eq_false (fun z => e z.1)]; rfl
  · rw [if_neg (show ¬ nI (kd K i) = (0 : Int32) from fun z => hk ((n_eq (b := 0) (by omega) (by omega)).mp z))]
    show Option.bind (f_X6_viasIn c p 46 (nI i)) _ = _
    rw [s_viasIn hp hRP hL hP hK hi rfl, Option.bind_some, vset_congr (U := LF P K) hP hK hi h.2.2.2.2.2.2.2.2.1.1]
    refine wp_is ?_
    rw [wp_bind]
    have hq : ∀ v fl, v < 10 → fl < 2 → dvn P K (LF P K) k o (20 * i + (2 * v + fl)) = (decide (fl < fcn K i) && bt (vset P K (LF P K) i) v && decide (ftg P K i v fl = k) && bt (LF P K (fsr P K i v fl)) o) := fun v fl hv hf => by
      rw [← Nat.add_assoc, dvn_flow hv hf hi he hk]
    refine wp_mono (lp_inv (fun (v : Nat) (s : Int32 × Int32) => s.2 = nI v ∧ s.1 = nI (cn (fun j => dvn P K (LF P K) k o (20 * i + j)) (2 * v))) (fun r => r = nI (cn (fun j => dvn P K (LF P K) k o (20 * i + j)) 20)) 10 ?_ ?_ (by decide) ⟨rfl, rfl⟩) (fun r q => by rw [wp_some, q])
    · rintro v ⟨a, b⟩ hv ⟨h1, h2⟩
      dsimp only at h1 h2
      subst h1; subst h2
      unfold b_X7_countDerivations_1
      dsimp only
      rw [if_pos (show nI v < (10 : Int32) from (n_lt (b := 10) (by omega) (by omega)).mpr hv), cont_bt (by omega)]
      cases hb : bt (vset P K (LF P K) i) v with
      | false =>
        rw [if_neg (by decide), Option.bind_some, wp_some]
        refine ⟨nI_1 v, ?_⟩
        dsimp only
        rw [cn_tail (a := 2 * v) (n := 2 * (v + 1)) (by omega) fun j h1 h2 => by
          rw [show j = 2 * v + (j - 2 * v) by omega, hq v _ hv (by omega), hb]; simp]
      | true =>
        obtain ⟨-, -, -, vf, -, -⟩ := vset_lt hP (LF_ok hP hK) hb
        have hfc : fcn K i ≤ 2 := by unfold fcn; split <;> omega
        rw [if_pos rfl, wp_bind, wp_bind]
        refine wp_mono (lp_inv (fun (fl : Nat) (s : Int32 × Int32) => s.2 = nI fl ∧ s.1 = nI (cn (fun j => dvn P K (LF P K) k o (20 * i + j)) (2 * v + fl))) (fun r => r = nI (cn (fun j => dvn P K (LF P K) k o (20 * i + j)) (2 * (v + 1)))) (fcn K i) ?_ ?_ (by unfold NF; omega) ⟨rfl, rfl⟩) (fun r q => by rw [wp_some, wp_some]; exact ⟨nI_1 v, q⟩)
        · rintro fl ⟨a, b⟩ hf ⟨h1, h2⟩
          dsimp only at h1 h2
          subst h1; subst h2
          have hsl := fsr_lt (fl := fl) hP hK hi hv hk vf
          have htl := ftg_lt (fl := fl) hP hK hi hv vf
          have hd := hq v fl hv (by omega)
          rw [decide_eq_true hf, hb, Bool.true_and, Bool.true_and] at hd
          unfold b_X7_countDerivations_2
          dsimp only
          rw [s_flowCount hp hL hK hi, Option.bind_some, if_pos ((n_lt (by omega) (by omega)).mpr hf), s_flowTarget hp hRP hL hK hi hv (fun a _ => vf a) (by omega), Option.bind_some, s_flowSource hp hRP hL hK hi hv (fun a _ => vf a) (by omega), Option.bind_some, show rdI zC c (zrf zC 45 0) (nI (fsr P K i v fl)) = some (SS P K (RR P K) (fsr P K i v fl)) from c_set h hsl, Option.bind_some, cont_bt (by omega)]
          have e1 : cn (fun j => dvn P K (LF P K) k o (20 * i + j)) (2 * v + (fl + 1)) = cn (fun j => dvn P K (LF P K) k o (20 * i + j)) (2 * v + fl) + (if dvn P K (LF P K) k o (20 * i + (2 * v + fl)) = true then 1 else 0) := rfl
          by_cases e : ftg P K i v fl = k
          · rw [if_pos (show nI (ftg P K i v fl) = nI k by rw [e])]
            rw [decide_eq_true e, Bool.true_and] at hd
            have hd' : dvn P K (LF P K) k o (20 * i + (2 * v + fl)) = bt (SS P K (RR P K) (fsr P K i v fl)) o := hd
            cases hx : bt (SS P K (RR P K) (fsr P K i v fl)) o with
            | true =>
              rw [if_pos rfl, Option.bind_some, if_pos rfl, Option.bind_some, wp_some]
              refine ⟨nI_1 fl, ?_⟩
              dsimp only
              rw [e1, hd', hx, if_pos rfl]
              exact nI_1 _
            | false =>
              rw [if_neg (by decide), Option.bind_some, if_neg (by decide), Option.bind_some, wp_some]
              refine ⟨nI_1 fl, ?_⟩
              dsimp only
              rw [e1, hd', hx, if_neg (by decide), Nat.add_zero]
          · rw [if_neg (fun z => e ((n_eq (by omega) (by omega)).mp z)), Option.bind_some, if_neg (by decide), Option.bind_some, wp_some]
            rw [decide_eq_false e, Bool.false_and] at hd
            refine ⟨nI_1 fl, ?_⟩
            dsimp only
            rw [e1, hd, if_neg (by decide), Nat.add_zero]
        · rintro ⟨a, b⟩ ⟨h1, h2⟩
          dsimp only at h1 h2
          subst h1; subst h2
          unfold b_X7_countDerivations_2
          dsimp only
          rw [s_flowCount hp hL hK hi, Option.bind_some, if_neg (fun z => Nat.lt_irrefl _ ((n_lt (by omega) (by omega)).mp z)), wp_some]
          show nI _ = nI _
          rw [cn_tail (a := 2 * v + fcn K i) (n := 2 * (v + 1)) (by omega) fun j h1 h2 => by
            rw [show j = 2 * v + (j - 2 * v) by omega, hq v _ hv (by omega), decide_eq_false (by omega)]; simp]
    · rintro ⟨a, b⟩ ⟨h1, h2⟩
      dsimp only at h1 h2
      subst h1; subst h2
      unfold b_X7_countDerivations_1
      dsimp only
      rw [if_neg (show ¬ nI 10 < (10 : Int32) by decide), wp_some]
      rfl
theorem q_derivationCount (h : Base p P K c m) : QD m (f_X9_derivationCount c 0 v u) (f_X10_derivationCount m 0 v u) := by
  have hP := h.2.2.2.2.2.2.1
  have hK := h.2.2.2.2.2.2.2.1
  have hn := hP.2.1
  have h30 := hK.1
  unfold QD f_X9_derivationCount f_X10_derivationCount
  rw [Option.bind_some, m_index h.m0]
  rcases find_cases (v := v) (u := u) h.m0 with ⟨h1, h2⟩ | ⟨s, o, hs, ho, hv, rfl, h2, h1⟩
  · rw [h1, h2]; exact ⟨-1, _, rfl, rfl, MD.refl _⟩
  · have hs56 := hs.lt hP
    rw [h1, h2, hv, Option.bind_some, Option.bind_some, Option.bind_some, m_isFact h.m0 (by omega) (by omega), Option.bind_some, if_neg (show ¬ ¬ (true = true) from fun z => z rfl)]
    cases hb : bt (SS P K (RR P K) s) o with
    | false => exact ⟨0, _, by rw [if_neg (show ¬ (false = true) by decide)]; rfl, rfl, MD.refl _⟩
    | true =>
      obtain ⟨m', e1, d1, d2, d3, -⟩ := m_derive (pr := false) h.m0 hs56 (show o < 10 by omega) hb
      have eB : dB P K false s o = LF P K := if_neg (by decide)
      rw [eB] at d3
      refine ⟨nI (cn (dvn P K (LF P K) s o) 600), m', ?_, ?_, d1⟩
      · rw [if_pos rfl, if_neg (n_neg (by omega)), h.rp, Option.bind_some]
        refine wp_is ?_
        rw [wp_bind]
        refine wp_mono (lp_inv (fun (i : Nat) (q : Int32 × Int32) => q.2 = nI i ∧ q.1 = nI (cn (dvn P K (LF P K) s o) (20 * i))) (fun r => r = nI (cn (dvn P K (LF P K) s o) 600)) (nc K) ?_ ?_ (by unfold NF; omega) ⟨rfl, rfl⟩) (fun r q => by rw [wp_some, q])
        · rintro i ⟨a, b⟩ hi ⟨g1, g2⟩
          dsimp only at g1 g2
          subst g1; subst g2
          unfold b_X9_derivationCount_1
          dsimp only
          rw [h.rp, Option.bind_some, Option.bind_some, Option.bind_some, c_isEnabled h (by omega), zp6 h.1, h.2.2.2.1.1, if_pos ((n_lt (by omega) (by omega)).mpr hi)]
          cases he : bt (en K) i with
          | false =>
            rw [if_neg (by decide), Option.bind_some, wp_some]
            refine ⟨nI_1 i, ?_⟩
            dsimp only
            rw [cn_tail (a := 20 * i) (n := 20 * (i + 1)) (by omega) fun j h1 h2 => dvn_off h1 h2 he]
          | true =>
            rw [if_pos rfl, c_slot h, hv]
            show wp (Option.bind (Option.bind (f_X7_countDerivations c 45 p (nI i) (nI s) (nI o)) _) _) _
            rw [c_countDer h hi he hs56 (by omega), Option.bind_some, Option.bind_some, wp_some]
            refine ⟨nI_1 i, ?_⟩
            dsimp only
            rw [show 20 * (i + 1) = 20 * i + 20 by omega, cn_split, n_add]
        · rintro ⟨a, b⟩ ⟨g1, g2⟩
          dsimp only at g1 g2
          subst g1; subst g2
          unfold b_X9_derivationCount_1
          dsimp only
          rw [h.rp, Option.bind_some, zp6 h.1, h.2.2.2.1.1, if_neg (fun z => Nat.lt_irrefl _ ((n_lt (by omega) (by omega)).mp z)), wp_some]
          show nI _ = nI _
          rw [cn_tail (a := 20 * nc K) (n := 600) (by omega) fun j h1 h2 => dvn_far h1]
      · rw [if_neg (show ¬ ¬ (true = true) from fun z => z rfl), e1, Option.bind_some, d3]
end DCT
