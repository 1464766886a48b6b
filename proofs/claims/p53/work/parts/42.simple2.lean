/-! More calls that only read. -/
theorem dvn_slot {P : PK} {K : CK} {B : Nat → Int32} {k o n : Nat} (hP : PWF P) (hK : CWF P K) (hB : TOK P B) (h : dvn P K B k o n = true) : SlOK P k := by
  unfold dvn at h
  simp only [Bool.and_eq_true, decide_eq_true_eq] at h
  obtain ⟨⟨hi, he⟩, h⟩ := h
  obtain ⟨g0, g1, g2, g3, g4, g5, g6⟩ := hK.2.2 _ hi
  by_cases hk : kd K (n / 20) = 0
  · rw [if_pos hk] at h
    simp only [decide_eq_true_eq] at h
    exact Or.inl (by omega)
  · rw [if_neg hk] at h
    simp only [Bool.and_eq_true, decide_eq_true_eq] at h
    obtain ⟨⟨⟨h1, h2⟩, h3⟩, h4⟩ := h
    have hv := vset_lt hP hB h2
    unfold ftg at h3
    by_cases h5 : kd K (n / 20) = 3
    · rw [if_pos h5] at h3
      exact Or.inr ⟨_, _, hv.2.1 (by omega), (g5 h5).1, h3.symm⟩
    · rw [if_neg h5] at h3
      by_cases h6 : kd K (n / 20) = 4
      · rw [if_pos h6] at h3
        have := hP.2.2.2 _ (hv.2.2.2.1 h6)
        split at h3 <;> exact Or.inl (by omega)
      · rw [if_neg h6] at h3
        exact Or.inl (by omega)
theorem SS_slot {P : PK} {K : CK} (hP : PWF P) (hK : CWF P K) {r k o : Nat} (h : bt (SS P K r k) o = true) : SlOK P k := by
  induction r with
  | zero => rw [show SS P K 0 k = 0 from rfl, b_0] at h; cases h
  | succ r ih =>
    rw [SS_bt hP hK, Bool.or_eq_true] at h
    rcases h with h | h
    · exact ih h
    · obtain ⟨n, _, h2⟩ := exb_iff.mp h
      exact dvn_slot hP hK (SS_ok hP hK r) h2
theorem SS_var {P : PK} {K : CK} (hP : PWF P) (hK : CWF P K) {r k o : Nat} (h : bt (SS P K r k) o = true) (hk : k < 16) : k < nv P := by
  rcases SS_slot hP hK h with q | ⟨a, b, _, _, q⟩
  · exact q
  · omega
/-- the targets of a call -/
noncomputable def tgI (P : PK) (K : CK) (i : Nat) : Int32 := if kd K i = 4 ∧ bt (en K) i = true then SS P K (RR P K) (kb K i) &&& fs P else 0
theorem tgI_on {P : PK} {K : CK} {i : Nat} (h4 : kd K i = 4) (he : bt (en K) i = true) : tgI P K i = SS P K (RR P K) (kb K i) &&& fs P := if_pos ⟨h4, he⟩
theorem tgI_off {P : PK} {K : CK} {i : Nat} (h : ¬ (kd K i = 4 ∧ bt (en K) i = true)) : tgI P K i = 0 := if_neg h
section SQ2
variable {p : Nat} {P : PK} {K : CK} {c m : Wd} {v u : Int32}
theorem q_pointersTo (h : Base p P K c m) : QS (f_X9_pointersTo c 0 v) (f_X10_pointersTo m 0 v) m := by
  have hP := h.2.2.2.2.2.2.1
  have hK := h.2.2.2.2.2.2.2.1
  have hn := hP.2.1
  have hv := hP.1
  unfold QS f_X9_pointersTo f_X10_pointersTo
  rw [c_isObject h, Option.bind_some, Option.bind_some, m_isObject h.m0, Option.bind_some]
  cases e : inR v (no P) with
  | false => exact ⟨-1, rfl, rfl⟩
  | true =>
    obtain ⟨o, ho, rfl⟩ := inR_t (by omega) e
    rw [if_neg (by decide), if_neg (by decide)]
    have hc : lp (b_X9_pointersTo_1 c 0 (nI o)) NF (0, 0) = some (mkI (fun s => bt (SS P K (RR P K) s) o) 16) := by
      refine wp_is (lp_inv (fun i s => s.2 = nI i ∧ s.1 = mkI (fun s => bt (SS P K (RR P K) s) o) i) _ 16 ?_ ?_ (by decide) ⟨rfl, rfl⟩)
      · rintro i ⟨a, s⟩ hi ⟨h1, h2⟩
        dsimp only at h1 h2
        subst h1; subst h2
        unfold b_X9_pointersTo_1
        dsimp only
        rw [if_pos (show nI i < (16 : Int32) from (n_lt (b := 16) (by omega) (by omega)).mpr hi), c_set h (by omega), Option.bind_some, cont_bt (by omega)]
        cases hb : bt (SS P K (RR P K) i) o with
        | false =>
          rw [if_neg (by decide), Option.bind_some, wp_some]
          exact ⟨nI_1 i, by rw [mkI_succ]; dsimp only; rw [hb, if_neg (by decide), or_zero]⟩
        | true =>
          rw [if_pos rfl, Option.bind_some, wp_some]
          exact ⟨nI_1 i, by rw [mkI_succ]; dsimp only; rw [hb, if_pos rfl]⟩
      · rintro ⟨a, s⟩ ⟨h1, h2⟩
        dsimp only at h1 h2
        subst h1; subst h2
        unfold b_X9_pointersTo_1
        dsimp only
        rw [if_neg (show ¬ nI 16 < (16 : Int32) by decide), wp_some]
        rfl
    have hm : lp (b_X10_pointersTo_1 (wsI m 0 0 0) 0 (nI o)) NF (0, 0) = some (mkI (fun s => bt (SS P K (RR P K) s) o) (nv P)) := by
      have e2 : rdI zM (wsI m 0 0 0) (zrf zM 0 10) (0 : Int32) = some (nI (nv P)) := by
        show rdI zM _ 2 (nI 0) = _
        rw [rdI_M (show 0 < 2 by omega), h.m0.2.2.2.2.1.1]
      refine wp_is (lp_inv (fun i s => s.2 = nI i ∧ s.1 = mkI (fun s => bt (SS P K (RR P K) s) o) i) _ (nv P) ?_ ?_ (by unfold NF; omega) ⟨rfl, rfl⟩)
      · rintro i ⟨a, s⟩ hi ⟨h1, h2⟩
        dsimp only at h1 h2
        subst h1; subst h2
        unfold b_X10_pointersTo_1
        dsimp only
        rw [e2, Option.bind_some, if_pos ((n_lt (by omega) (by omega)).mpr hi), m_set h.m0 (by omega), Option.bind_some, has_bt (by omega), wp_some]
        exact ⟨nI_1 i, rfl⟩
      · rintro ⟨a, s⟩ ⟨h1, h2⟩
        dsimp only at h1 h2
        subst h1; subst h2
        unfold b_X10_pointersTo_1
        dsimp only
        rw [e2, Option.bind_some, if_neg (fun z => Nat.lt_irrefl _ ((n_lt (by omega) (by omega)).mp z)), wp_some]
        rfl
    rw [hc, hm]
    refine ⟨_, rfl, ?_⟩
    rw [mkI_stop (n := nv P) (k := 16) hv fun j h1 h2 => by
      cases hb : bt (SS P K (RR P K) j) o with
      | false => rfl
      | true => have := SS_var hP hK hb h2; omega]
    rfl
/-- a fact that a call names -/
theorem find_cases (h : Base p P K c m) : (f_X9_findFact c 0 v u = some (-1) ∧ f_X10_areValid m 0 v u = some false) ∨ ∃ s o, SlOK P s ∧ o < no P ∧ slI P v = nI s ∧ u = nI o ∧ f_X10_areValid m 0 v u = some true ∧
    f_X9_findFact c 0 v u = some (if bt (SS P K (RR P K) s) o = true then nI (10 * s + o) else -2) := by
  have hP := h.2.2.2.2.2.2.1
  have hn := hP.2.1
  unfold f_X9_findFact f_X10_areValid
  rw [h.rp, Option.bind_some, m_index h, Option.bind_some, c_slot h, c_isObject h, m_isObject h, Option.bind_some, Option.bind_some]
  rcases slI_cases (P := P) (v := v) hP with e | ⟨s, hs, e⟩
  · rw [e]; exact Or.inl ⟨rfl, rfl⟩
  · have := hs.lt hP
    cases e2 : inR u (no P) with
    | false => rw [e, if_neg (n_m1 (by omega)), if_pos (nI_pos' (by omega))]; exact Or.inl ⟨rfl, rfl⟩
    | true =>
      obtain ⟨o, ho, rfl⟩ := inR_t (by omega) e2
      refine Or.inr ⟨s, o, hs, ho, e, rfl, ?_, ?_⟩
      · rw [e, if_pos (nI_pos' (by omega))]; rfl
      · rw [e, if_neg (n_m1 (by omega)), if_pos rfl, Option.bind_some, if_neg (by decide), c_set h (by omega), Option.bind_some, cont_bt (by omega), factOf_n]
theorem m_isFact (h : Base p P K c m) {s o : Nat} (hs : s < 56) (ho : o < 32) : f_X10_isFact m 0 (nI s) (nI o) = some (bt (SS P K (RR P K) s) o) := by
  unfold f_X10_isFact
  rw [m_set h hs, Option.bind_some, has_bt ho]
theorem q_roundOf (h : Base p P K c m) : QS (f_X9_roundOf c 0 v u) (f_X10_roundOf m 0 v u) m := by
  have hP := h.2.2.2.2.2.2.1
  have hn := hP.2.1
  unfold QS f_X9_roundOf f_X10_roundOf
  have hc := find_cases (v := v) (u := u) h.m0
  rw [Option.bind_some, m_index h.m0, Option.bind_some]
  rcases hc with ⟨h1, h2⟩ | ⟨s, o, hs, ho, hv, rfl, h2, h1⟩
  · rw [h1, h2]; exact ⟨-1, rfl, rfl⟩
  · have := hs.lt hP
    rw [h1, h2, hv, Option.bind_some, Option.bind_some, m_isFact h.m0 (by omega) (by omega), Option.bind_some, if_neg (show ¬ ¬ (true = true) from fun z => z rfl)]
    cases hb : bt (SS P K (RR P K) s) o with
    | false => exact ⟨-2, by rw [if_neg (show ¬ (false = true) by decide)]; rfl, rfl⟩
    | true =>
      refine ⟨nI (rd P K s o), ?_, ?_⟩
      · rw [show (if true = true then nI (10 * s + o) else -2) = nI (10 * s + o) from rfl, if_neg (n_neg (by omega))]
        show Option.bind (Option.bind (rdI zC c 48 (nI (10 * s + o))) _) _ = _
        rw [rdI_C (show 10 * s + o < 560 by omega), (h.2.2.2.2.2.2.2.2.1.2.1 s o (by omega) (by omega) hb).1]; rfl
      · rw [if_pos rfl]
        show Option.bind (Option.bind (rdI zM _ 17 (nI 10 * nI s + nI o)) _) _ = _
        rw [pk_mul, nI_add, rdI_M (show 10 * s + o < 560 by omega), h.m0.2.2.2.2.2.2.2.2.2.2.1 s o (by omega) (by omega) hb]; rfl
theorem c_kind (h : Base p P K c m) {i : Nat} (hi : i < nc K) : rdI zC c (zrf zC (zrf zC p 6) 0) (nI i) = some (nI (kd K i)) := by
  rw [zp6 h.1, zl0 h.1.LC, r_k1 h.1.LC h.2.2.2.1 h.2.2.2.2.2.2.2.1.1 hi]
theorem c_isEnabled (h : Base p P K c m) {i : Nat} (hi : i < 32) : f_X0_isEnabled c (zrf zC p 6) (nI i) = bt (en K) i := by
  unfold f_X0_isEnabled
  rw [zp6 h.1, h.2.2.2.1.2.1, cont_bt hi]
theorem kd4 {k : Nat} (hk : k ≤ 4) : (nI k = (4 : Int32)) ↔ k = 4 := n_eq (b := 4) (by omega) (by omega)
theorem c_targets (h : Base p P K c m) {i : Nat} (hi : i < nc K) : f_X9_targetsOfCall c 0 (nI i) = some (tgI P K i) := by
  have hK := h.2.2.2.2.2.2.2.1
  have hk := (hK.2.2 i hi).1
  have := hK.1
  unfold f_X9_targetsOfCall
  rw [h.rp, Option.bind_some, c_kind h hi, Option.bind_some, Option.bind_some, Option.bind_some, c_isEnabled h (by omega)]
  by_cases h4 : kd K i = 4
  · rw [if_neg (fun z => z ((kd4 hk).mpr h4))]
    cases he : bt (en K) i with
    | false => rw [tgI_off (fun z => by rw [he] at z; exact Bool.false_ne_true z.2)]; rfl
    | true =>
      rw [tgI_on h4 he, if_pos rfl, Option.bind_some, if_neg (by decide)]
      rw [s_viasIn h.1 h.2.2.1 h.2.2.2.1 h.2.2.2.2.2.2.1 hK hi rfl]
      have hb := (hK.2.2 i hi).2.2.2.2.2.2 h4
      have hnv := h.2.2.2.2.2.2.1.1
      unfold vset
      rw [if_neg (by omega), if_neg (by omega), if_neg (by omega), if_pos h4]
      show some (c.1 46 (kb K i) &&& fs P) = _
      rw [h.2.2.2.2.2.2.2.2.1.1 _ (by omega)]
  · rw [if_pos (fun z => h4 ((kd4 hk).mp z)), tgI_off (fun z => h4 z.1)]; rfl
theorem m_targets (h : Base p P K c m) {i : Nat} (hi : i < nc K) (h4 : kd K i = 4) : f_X10_targets m 0 (nI i) = some (tgI P K i) := by
  have hK := h.2.2.2.2.2.2.2.1
  have := hK.1
  have hb := (hK.2.2 i hi).2.2.2.2.2.2 h4
  have hnv := h.2.2.2.2.2.2.1.1
  have hL := h.2.2.2.2.2.1
  unfold f_X10_targets
  rw [m_isEnabled hL (by omega), Option.bind_some, m_second hL hK.1 hi, Option.bind_some, m_set h (by omega), Option.bind_some, m_functionSet h, Option.bind_some]
  cases he : bt (en K) i with
  | false => rw [tgI_off (fun z => by rw [he] at z; exact Bool.false_ne_true z.2)]; rfl
  | true => rw [tgI_on h4 he]; rfl
theorem q_callTargets (h : Base p P K c m) : QS (f_X9_callTargets c 0 v) (f_X10_callTargets m 0 v) m := by
  have hK := h.2.2.2.2.2.2.2.1
  have h30 := hK.1
  unfold QS f_X9_callTargets f_X10_callTargets
  rw [c_isConstraint h, Option.bind_some, Option.bind_some, m_isConstraint h.m0, Option.bind_some]
  cases e : inR v (nc K) with
  | false => exact ⟨-1, rfl, rfl⟩
  | true =>
    obtain ⟨i, hi, rfl⟩ := inR_t (by omega) e
    have hk := (hK.2.2 i hi).1
    rw [if_pos rfl, if_pos rfl, h.rp, Option.bind_some, c_kind h hi, Option.bind_some, m_kind h.m0.2.2.2.2.2.1 hK.1 hi, Option.bind_some]
    by_cases h4 : kd K i = 4
    · rw [if_neg (fun z => z ((kd4 hk).mpr h4)), if_pos ((kd4 hk).mpr h4), Option.bind_some, Option.bind_some, if_neg (by decide), if_pos rfl, c_targets h hi, m_targets h.m0 hi h4]
      exact ⟨_, rfl, rfl⟩
    · rw [if_pos (fun z => h4 ((kd4 hk).mp z)), if_neg (fun z => h4 ((kd4 hk).mp z))]
      exact ⟨-1, rfl, rfl⟩
theorem q_callersOf (h : Base p P K c m) : QS (f_X9_callersOf c 0 v) (f_X10_callersOf m 0 v) m := by
  have hP := h.2.2.2.2.2.2.1
  have hK := h.2.2.2.2.2.2.2.1
  have hn := hP.2.1
  have h30 := hK.1
  unfold QS f_X9_callersOf f_X10_callersOf
  rw [c_isObject h, Option.bind_some, Option.bind_some, m_isObject h.m0, Option.bind_some]
  cases e : inR v (no P) with
  | false => exact ⟨-1, rfl, rfl⟩
  | true =>
    obtain ⟨o, ho, rfl⟩ := inR_t (by omega) e
    rw [if_neg (by decide), if_neg (by decide)]
    have hc : lp (b_X9_callersOf_1 c 0 (nI o)) NF (0, 0) = some (mkI (fun s => bt (tgI P K s) o) (nc K)) := by
      refine wp_is (lp_inv (fun i s => s.2 = nI i ∧ s.1 = mkI (fun s => bt (tgI P K s) o) i) _ (nc K) ?_ ?_ (by unfold NF; omega) ⟨rfl, rfl⟩)
      · rintro i ⟨a, s⟩ hi ⟨h1, h2⟩
        dsimp only at h1 h2
        subst h1; subst h2
        unfold b_X9_callersOf_1
        dsimp only
        rw [h.rp, Option.bind_some, zp6 h.1, h.2.2.2.1.1, if_pos ((n_lt (by omega) (by omega)).mpr hi), c_targets h hi, Option.bind_some, cont_bt (by omega)]
        cases hb : bt (tgI P K i) o with
        | false =>
          rw [if_neg (by decide), Option.bind_some, wp_some]
          exact ⟨nI_1 i, by rw [mkI_succ]; dsimp only; rw [hb, if_neg (by decide), or_zero]⟩
        | true =>
          rw [if_pos rfl, Option.bind_some, wp_some]
          exact ⟨nI_1 i, by rw [mkI_succ]; dsimp only; rw [hb, if_pos rfl]⟩
      · rintro ⟨a, s⟩ ⟨h1, h2⟩
        dsimp only at h1 h2
        subst h1; subst h2
        unfold b_X9_callersOf_1
        dsimp only
        rw [h.rp, Option.bind_some, zp6 h.1, h.2.2.2.1.1, if_neg (fun z => Nat.lt_irrefl _ ((n_lt (by omega) (by omega)).mp z)), wp_some]
        rfl
    have hm : lp (b_X10_callersOf_1 (wsI m 0 0 0) 0 (nI o)) NF (0, 0) = some (mkI (fun s => bt (tgI P K s) o) (nc K)) := by
      refine wp_is (lp_inv (fun i s => s.2 = nI i ∧ s.1 = mkI (fun s => bt (tgI P K s) o) i) _ (nc K) ?_ ?_ (by unfold NF; omega) ⟨rfl, rfl⟩)
      · rintro i ⟨a, s⟩ hi ⟨h1, h2⟩
        dsimp only at h1 h2
        subst h1; subst h2
        have hk := (hK.2.2 i hi).1
        unfold b_X10_callersOf_1
        dsimp only
        rw [m_count h.m0.2.2.2.2.2.1, Option.bind_some, if_pos ((n_lt (by omega) (by omega)).mpr hi), m_kind h.m0.2.2.2.2.2.1 h30 hi, Option.bind_some]
        by_cases h4 : kd K i = 4
        · rw [if_pos ((kd4 hk).mpr h4), m_targets h.m0 hi h4, Option.bind_some, has_bt (by omega)]
          cases hb : bt (tgI P K i) o with
          | false =>
            rw [if_neg (by decide), Option.bind_some, if_neg (by decide), Option.bind_some, wp_some]
            exact ⟨nI_1 i, by rw [mkI_succ]; dsimp only; rw [hb, if_neg (by decide)]⟩
          | true =>
            rw [if_pos rfl, Option.bind_some, if_pos rfl, Option.bind_some, wp_some]
            exact ⟨nI_1 i, by rw [mkI_succ]; dsimp only; rw [hb, if_pos rfl]⟩
        · rw [if_neg (fun z => h4 ((kd4 hk).mp z)), Option.bind_some, if_neg (by decide), Option.bind_some, wp_some]
          refine ⟨nI_1 i, ?_⟩
          have hb : bt (tgI P K i) o = false := by unfold tgI; rw [if_neg (fun z => h4 z.1), b_0]
          rw [mkI_succ]; dsimp only; rw [hb, if_neg (by decide)]
      · rintro ⟨a, s⟩ ⟨h1, h2⟩
        dsimp only at h1 h2
        subst h1; subst h2
        unfold b_X10_callersOf_1
        dsimp only
        rw [m_count h.m0.2.2.2.2.2.1, Option.bind_some, if_neg (fun z => Nat.lt_irrefl _ ((n_lt (by omega) (by omega)).mp z)), wp_some]
        rfl
    rw [hc, hm]
    exact ⟨_, rfl, rfl⟩
noncomputable def unI (P : PK) (K : CK) : Nat → Int32
  | 0 => fs P
  | n + 1 => unI P K n &&& (tgI P K n ^^^ (-1 : Int32))
theorem and_m1 (x : Int32) : x &&& ((0 : Int32) ^^^ (-1 : Int32)) = x := b_ext fun i hi => by rw [b_and, bt_not hi, b_0]; exact Bool.and_true _
theorem q_uncalledFunctions (h : Base p P K c m) : QS (f_X9_uncalledFunctions c 0) (f_X10_uncalledFunctions m 0) m := by
  have hK := h.2.2.2.2.2.2.2.1
  have h30 := hK.1
  unfold QS f_X9_uncalledFunctions f_X10_uncalledFunctions
  rw [h.rp, Option.bind_some, Option.bind_some, m_functionSet h.m0, Option.bind_some, h.2.2.1.2.2.2.1]
  have hc : lp (b_X9_uncalledFunctions_1 c 0) NF (fs P, 0) = some (unI P K (nc K)) := by
    refine wp_is (lp_inv (fun i s => s.2 = nI i ∧ s.1 = unI P K i) _ (nc K) ?_ ?_ (by unfold NF; omega) ⟨rfl, rfl⟩)
    · rintro i ⟨a, s⟩ hi ⟨h1, h2⟩
      dsimp only at h1 h2
      subst h1; subst h2
      unfold b_X9_uncalledFunctions_1
      dsimp only
      rw [h.rp, Option.bind_some, zp6 h.1, h.2.2.2.1.1, if_pos ((n_lt (by omega) (by omega)).mpr hi), c_targets h hi, Option.bind_some, wp_some]
      exact ⟨nI_1 i, rfl⟩
    · rintro ⟨a, s⟩ ⟨h1, h2⟩
      dsimp only at h1 h2
      subst h1; subst h2
      unfold b_X9_uncalledFunctions_1
      dsimp only
      rw [h.rp, Option.bind_some, zp6 h.1, h.2.2.2.1.1, if_neg (fun z => Nat.lt_irrefl _ ((n_lt (by omega) (by omega)).mp z)), wp_some]
      rfl
  have hm : lp (b_X10_uncalledFunctions_1 (wsI m 0 0 0) 0) NF (fs P, 0) = some (unI P K (nc K)) := by
    refine wp_is (lp_inv (fun i s => s.2 = nI i ∧ s.1 = unI P K i) _ (nc K) ?_ ?_ (by unfold NF; omega) ⟨rfl, rfl⟩)
    · rintro i ⟨a, s⟩ hi ⟨h1, h2⟩
      dsimp only at h1 h2
      subst h1; subst h2
      have hk := (hK.2.2 i hi).1
      unfold b_X10_uncalledFunctions_1
      dsimp only
      rw [m_count h.m0.2.2.2.2.2.1, Option.bind_some, if_pos ((n_lt (by omega) (by omega)).mpr hi), m_kind h.m0.2.2.2.2.2.1 h30 hi, Option.bind_some]
      by_cases h4 : kd K i = 4
      · rw [if_pos ((kd4 hk).mpr h4), m_targets h.m0 hi h4, Option.bind_some, Option.bind_some, wp_some]
        exact ⟨nI_1 i, rfl⟩
      · rw [if_neg (fun z => h4 ((kd4 hk).mp z)), Option.bind_some, wp_some]
        refine ⟨nI_1 i, ?_⟩
        show unI P K i = unI P K i &&& (tgI P K i ^^^ (-1 : Int32))
        have : tgI P K i = 0 := by unfold tgI; rw [if_neg (fun z => h4 z.1)]
        rw [this, and_m1]
    · rintro ⟨a, s⟩ ⟨h1, h2⟩
      dsimp only at h1 h2
      subst h1; subst h2
      unfold b_X10_uncalledFunctions_1
      dsimp only
      rw [m_count h.m0.2.2.2.2.2.1, Option.bind_some, if_neg (fun z => Nat.lt_irrefl _ ((n_lt (by omega) (by omega)).mp z)), wp_some]
      rfl
  rw [hc, hm]
  exact ⟨_, rfl, rfl⟩
end SQ2
