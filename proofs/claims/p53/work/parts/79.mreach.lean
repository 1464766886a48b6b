/-! The reference's layEdges and layReach; what it reads of them. -/
/-- what the graph's calls leave alone in the reference -/
def FgM (m m' : Wd) : Prop := m'.1 = m.1 ∧ (∀ q, q < 20 ∨ 22 < q → m'.2.1 q = m.2.1 q) ∧ m'.2.2 = m.2.2
theorem FgM.refl (m : Wd) : FgM m m := ⟨rfl, fun _ _ => rfl, rfl⟩
section MR
variable {p : Nat} {P : PK} {K : CK} {c m m' m0 w : Wd} {i v o fl s t n b k f : Nat} {x : Int64}
theorem Base.keepGM (h : Base p P K c m) (k : FgM m m') : Base p P K c m' := by
  obtain ⟨h1, h2, h3, h4, h5, h6, h7, h8, h9, h10⟩ := h
  exact ⟨h1, h2, h3, h4, h5.keep fun q _ _ => by rw [k.1], h6.keep (by rw [k.1]), h7, h8, h9, h10.keep (by rw [k.1]) (by rw [k.1]) (by rw [k.1])⟩
/-- the reference's edges are right -/
def GE (P : PK) (K : CK) (m : Wd) : Prop := ∀ s t, s < 56 → t < 64 → lb (m.2.1 20 s) t = ED P K s t
def GR (P : PK) (K : CK) (m : Wd) : Prop := ∀ s t, s < 56 → t < 64 → lb (m.2.1 21 s) t = rch P K 56 s t
theorem m_layEdges (hb : Base p P K c m) : ∃ m', f_X10_layEdges m 0 = some m' ∧ FgM m m' ∧ GE P K m' ∧ m'.2.1 21 = m.2.1 21 := by
  have hP := hb.2.2.2.2.2.2.1
  have hK := hb.2.2.2.2.2.2.2.1
  have h30 := hK.1
  suffices h : wp (f_X10_layEdges m 0) (fun m' => FgM m m' ∧ GE P K m' ∧ m'.2.1 21 = m.2.1 21) from h
  unfold f_X10_layEdges
  rw [wp_bind]
  refine wp_mono (lp_inv (fun i r => r.1 = nI i ∧ r.2.1 = m.1 ∧ (∀ q, q ≠ 20 → r.2.2.1 q = m.2.1 q) ∧ r.2.2.2 = m.2.2 ∧ ∀ s, s < i → r.2.2.1 20 s = 0) (fun w => w.1 = m.1 ∧ (∀ q, q ≠ 20 → w.2.1 q = m.2.1 q) ∧ w.2.2 = m.2.2 ∧ ∀ s, s < 56 → w.2.1 20 s = 0) 56 ?_ ?_ (by decide) ⟨rfl, rfl, fun q hq => rfl, rfl, fun s hs => by omega⟩) ?_
  · rintro i ⟨a, w⟩ hi ⟨h1, h2, h3, h4, h5⟩
    dsimp only at h1 h2 h3 h4 h5
    subst h1
    unfold b_X10_layEdges_1
    dsimp only
    rw [if_pos (show nI i < (56 : Int32) from (n_lt (b := 56) (by omega) (by omega)).mpr hi)]
    show wp (Option.bind (wrL zM w 20 (nI i) 0) _) _
    rw [wrL_M (show i < 56 from hi), Option.bind_some, wp_some]
    refine ⟨nI_1 i, h2, fun q hq => by dsimp only; rw [wsL_o _ _ _ hq]; exact h3 q hq, h4, fun s hs => ?_⟩
    dsimp only
    rw [wsL_s]
    by_cases e : s = i
    · subst e; rw [updL_s]
    · rw [updL_o e]; exact h5 s (by omega)
  · rintro ⟨a, w⟩ ⟨h1, h2, h3, h4, h5⟩
    dsimp only at h1 h2 h3 h4 h5
    subst h1
    unfold b_X10_layEdges_1
    dsimp only
    rw [if_neg (show ¬ nI 56 < (56 : Int32) by decide), wp_some]
    exact ⟨h2, h3, h4, h5⟩
  · rintro w0 ⟨g1, g2, g3, g4⟩
    rw [wp_bind]
    refine wp_mono (lp_inv (fun i r => r.1 = nI i ∧ LaM P K m (20 * i) r.2) (LaM P K m 600) (nc K) ?_ ?_ (by unfold NF; omega) ⟨rfl, g1, g2, g3, fun s t hs ht => by rw [g4 s hs, l_0]; rfl⟩) ?_
    · rintro i ⟨a, w⟩ hi ⟨e1, e2⟩
      dsimp only at e1 e2
      subst e1
      obtain ⟨rP, rL⟩ := e2.rp hb
      unfold b_X10_layEdges_2
      dsimp only
      rw [m_count rL, Option.bind_some, if_pos ((n_lt (by omega) (by omega)).mpr hi), m_isEnabled rL (by omega), Option.bind_some]
      cases e : bt (en K) i with
      | false =>
        rw [if_pos (by decide), wp_some]
        exact ⟨nI_1 i, e2.same (by omega) fun s t j a b => edn_off a b (Or.inl e)⟩
      | true =>
        rw [if_neg (by decide), m_kind rL h30 hi, Option.bind_some]
        have hk4 := (hK.2.2 i hi).1
        by_cases q0 : kd K i = 0
        · rw [if_neg (show ¬ nI (kd K i) = (1 : Int32) from k_no (b := 1) (by omega) (by omega) (by omega)), Option.bind_some, wp_bind]
          refine wp_mono (m_edgeNone hb hi (Or.inl q0) e2 rfl) fun r q => ?_
          rw [q, wp_some]
          exact ⟨nI_1 i, e2.same (by omega) fun s t j a b => edn_off a b (Or.inr q0)⟩
        · by_cases q1 : kd K i = 1
          · have r3 := (hK.2.2 i hi).2.2.2.1 q1
            have r2 := (hK.2.2 i hi).2.1
            have hnv := hP.1
            have hv : vset P K (LF P K) i = 1 := by unfold vset; rw [if_pos q1]
            rw [if_pos (show nI (kd K i) = (1 : Int32) by rw [q1]; rfl), m_second rL h30 hi, Option.bind_some, m_first rL h30 hi, Option.bind_some]
            obtain ⟨w', f1, f2⟩ := e2.edge (f := kb K i) (b := ka K i) (by omega) (by omega) (fun s t => by
              have := edn_flow (P := P) (K := K) (s := s) (t := t) (v := 0) (fl := 0) (i := i) (by omega) (by omega) hi e (by omega)
              rw [show 20 * i + 2 * 0 + 0 = 20 * i from rfl] at this
              rw [this, hv, show bt 1 0 = true by decide, Bool.and_true]
              unfold fcn fsr ftg
              rw [if_neg (show ¬ kd K i = 4 by omega), if_neg (show ¬ kd K i = 2 by omega), if_neg (show ¬ kd K i = 3 by omega), if_neg (show ¬ kd K i = 4 by omega), if_neg (show ¬ kd K i = 3 by omega), if_neg (show ¬ kd K i = 4 by omega)]
              exact decide_eq_decide.mpr ⟨fun z => z.2, fun z => ⟨by omega, z⟩⟩)
            rw [f1, Option.bind_some, Option.bind_some, wp_bind]
            refine wp_mono (m_edgeNone hb hi (Or.inr q1) f2 rfl) fun r q => ?_
            rw [q, wp_some]
            refine ⟨nI_1 i, f2.same (by omega) fun s t j a b => ?_⟩
            obtain ⟨v, fl, hv2, hfl, hne, rfl⟩ : ∃ v fl, v < 10 ∧ fl < 2 ∧ (0 < v ∨ 0 < fl) ∧ j = 20 * i + 2 * v + fl := ⟨(j - 20 * i) / 2, (j - 20 * i) % 2, by omega, by omega, by omega, by omega⟩
            rw [edn_flow hv2 hfl hi e (by omega), hv]
            rcases hne with z | z
            · rw [(by decide +kernel : ∀ i, i < 32 → i ≠ 0 → bt 1 i = false) v (by omega) (by omega), Bool.and_false]
            · rw [decide_eq_false (fun y => by
                have := y.1
                unfold fcn at this
                rw [if_neg (by omega)] at this
                omega)]; rfl
          · rw [if_neg (show ¬ nI (kd K i) = (1 : Int32) from k_no (b := 1) (by omega) (by omega) (by omega)), Option.bind_some, wp_bind]
            refine wp_mono (m_edgeLoop hb hi e (by omega) e2 rfl) fun r q => ?_
            rw [wp_some]
            exact ⟨nI_1 i, q⟩
    · rintro ⟨a, w⟩ ⟨e1, e2⟩
      dsimp only at e1 e2
      subst e1
      obtain ⟨rP, rL⟩ := e2.rp hb
      unfold b_X10_layEdges_2
      dsimp only
      rw [m_count rL, Option.bind_some, if_neg (fun z => Nat.lt_irrefl _ ((n_lt (by omega) (by omega)).mp z)), wp_some]
      exact e2.same (by omega) fun s t j a b => edn_far (by omega)
    · rintro w1 ⟨e1, e2, e3, e4⟩
      rw [wp_some]
      exact ⟨⟨e1, fun q hq => e2 q (by omega), e3⟩, e4, e2 21 (by omega)⟩
theorem m_layReach (hb : Base p P K c m) : ∃ m', f_X10_layReach m 0 = some m' ∧ FgM m m' ∧ GE P K m' ∧ GR P K m' := by
  obtain ⟨m1, e1, e2, e3, -⟩ := m_layEdges hb
  suffices h : wp (f_X10_layReach m 0) (fun m' => FgM m m' ∧ GE P K m' ∧ GR P K m') from h
  unfold f_X10_layReach
  rw [e1, Option.bind_some, wp_bind]
  refine wp_mono (lp_inv (fun i r => r.1 = nI i ∧ r.2.1 = m1.1 ∧ (∀ q, q ≠ 21 → r.2.2.1 q = m1.2.1 q) ∧ r.2.2.2 = m1.2.2 ∧ ∀ s t, s < i → t < 64 → lb (r.2.2.1 21 s) t = rch P K 0 s t) (fun w => w.1 = m1.1 ∧ (∀ q, q ≠ 21 → w.2.1 q = m1.2.1 q) ∧ w.2.2 = m1.2.2 ∧ ∀ s t, s < 56 → t < 64 → lb (w.2.1 21 s) t = rch P K 0 s t) 56 ?_ ?_ (by decide) ⟨rfl, rfl, fun q hq => rfl, rfl, fun s t hs => by omega⟩) ?_
  · rintro i ⟨a, w⟩ hi ⟨h1, h2, h3, h4, h5⟩
    dsimp only at h1 h2 h3 h4 h5
    subst h1
    unfold b_X10_layReach_1
    dsimp only
    rw [if_pos (show nI i < (56 : Int32) from (n_lt (b := 56) (by omega) (by omega)).mpr hi)]
    show wp (Option.bind (rdL zM w 20 (nI i)) fun x4 => Option.bind (wrL zM w 21 (nI i) (x4 ||| jlshl 1 (nI i))) _) _
    rw [rdL_M (show i < 56 from hi), Option.bind_some, wrL_M (show i < 56 from hi), Option.bind_some, wp_some]
    refine ⟨nI_1 i, h2, fun q hq => by dsimp only; rw [wsL_o _ _ _ hq]; exact h3 q hq, h4, fun s t hs ht => ?_⟩
    dsimp only
    rw [wsL_s]
    by_cases e : s = i
    · subst e
      rw [updL_s, l_put (by omega) ht, h3 20 (by omega), e3 s t hi ht]
      show _ = (ED P K s t || decide (s = t))
      exact congrArg (fun z => ED P K s t || z) (decide_eq_decide.mpr eq_comm)
    · rw [updL_o e]; exact h5 s t (by omega) ht
  · rintro ⟨a, w⟩ ⟨h1, h2, h3, h4, h5⟩
    dsimp only at h1 h2 h3 h4 h5
    subst h1
    unfold b_X10_layReach_1
    dsimp only
    rw [if_neg (show ¬ nI 56 < (56 : Int32) by decide), wp_some]
    exact ⟨h2, h3, h4, h5⟩
  · rintro w0 ⟨g2, g3, g4, g5⟩
    rw [wp_bind]
    refine wp_mono (lp_inv (fun b r => r.1 = nI b ∧ r.2.1 = m1.1 ∧ (∀ q, q ≠ 21 → r.2.2.1 q = m1.2.1 q) ∧ r.2.2.2 = m1.2.2 ∧ ∀ s t, s < 56 → t < 64 → lb (r.2.2.1 21 s) t = rch P K b s t) (fun w => w.1 = m1.1 ∧ (∀ q, q ≠ 21 → w.2.1 q = m1.2.1 q) ∧ w.2.2 = m1.2.2 ∧ ∀ s t, s < 56 → t < 64 → lb (w.2.1 21 s) t = rch P K 56 s t) 56 ?_ ?_ (by decide) ⟨rfl, g2, g3, g4, g5⟩) (fun r q => wp_some.mpr ?_)
    · rintro b ⟨a, w⟩ hb ⟨h1, h2, h3, h4, h5⟩
      dsimp only at h1 h2 h3 h4 h5
      subst h1
      unfold b_X10_layReach_2
      dsimp only
      rw [if_pos (show nI b < (56 : Int32) from (n_lt (b := 56) (by omega) (by omega)).mpr hb), wp_bind]
      refine wp_mono (lp_inv (fun k r => r.1 = nI k ∧ r.2.1 = m1.1 ∧ (∀ q, q ≠ 21 → r.2.2.1 q = m1.2.1 q) ∧ r.2.2.2 = m1.2.2 ∧ ∀ s t, s < 56 → t < 64 → lb (r.2.2.1 21 s) t = if s < k then rch P K (b + 1) s t else rch P K b s t) (fun w => w.1 = m1.1 ∧ (∀ q, q ≠ 21 → w.2.1 q = m1.2.1 q) ∧ w.2.2 = m1.2.2 ∧ ∀ s t, s < 56 → t < 64 → lb (w.2.1 21 s) t = rch P K (b + 1) s t) 56 ?_ ?_ (by decide) ⟨rfl, h2, h3, h4, fun s t hs ht => by rw [if_neg (by omega)]; exact h5 s t hs ht⟩) (fun r q => by rw [wp_some]; exact ⟨nI_1 b, q⟩)
      · rintro k ⟨a, w⟩ hk ⟨h1, h2, h3, h4, h5⟩
        dsimp only at h1 h2 h3 h4 h5
        subst h1
        unfold b_X10_layReach_3
        dsimp only
        have hkb : lb (w.2.1 21 k) b = rch P K b k b := by rw [h5 k b hk (by omega), if_neg (by omega)]
        have hb2 : ∀ t, t < 64 → lb (w.2.1 21 b) t = rch P K b b t := fun t ht => by
          rw [h5 b t hb ht]
          split
          · exact rch_row b t
          · rfl
        have hkt : ∀ t, t < 64 → lb (w.2.1 21 k) t = rch P K b k t := fun t ht => by rw [h5 k t hk ht, if_neg (by omega)]
        rw [if_pos (show nI k < (56 : Int32) from (n_lt (b := 56) (by omega) (by omega)).mpr hk)]
        show wp (Option.bind (Option.bind (rdL zM w 21 (nI k)) fun x13 => if f_X10_hasBit x13 (nI b) = true then Option.bind (rdL zM w 21 (nI k)) fun x15 => Option.bind (rdL zM w 21 (nI b)) fun x16 => Option.bind (wrL zM w 21 (nI k) (x15 ||| x16)) _ else _) _) _
        rw [rdL_M (show k < 56 from hk), Option.bind_some, hasBit_lb (by omega), hkb]
        cases e : rch P K b k b with
        | false =>
          rw [if_neg (by decide), Option.bind_some, wp_some]
          refine ⟨nI_1 k, h2, h3, h4, fun s t hs ht => ?_⟩
          dsimp only
          by_cases q : s = k
          · subst q
            rw [hkt t ht, if_pos (by omega)]
            show _ = (rch P K b s t || (rch P K b s b && _))
            rw [e, Bool.false_and, Bool.or_false]
          · rw [h5 s t hs ht]
            by_cases q2 : s < k
            · rw [if_pos q2, if_pos (by omega)]
            · rw [if_neg q2, if_neg (by omega)]
        | true =>
          rw [if_pos rfl, Option.bind_some, rdL_M (show b < 56 from hb), Option.bind_some, wrL_M (show k < 56 from hk), Option.bind_some, Option.bind_some, wp_some]
          refine ⟨nI_1 k, h2, fun q hq => by dsimp only; rw [wsL_o _ _ _ hq]; exact h3 q hq, h4, fun s t hs ht => ?_⟩
          dsimp only
          rw [wsL_s]
          by_cases q : s = k
          · subst q
            rw [updL_s, l_or, hkt t ht, hb2 t ht, if_pos (by omega)]
            show _ = (rch P K b s t || (rch P K b s b && _))
            rw [e, Bool.true_and]
          · rw [updL_o q, h5 s t hs ht]
            by_cases q2 : s < k
            · rw [if_pos q2, if_pos (by omega)]
            · rw [if_neg q2, if_neg (by omega)]
      · rintro ⟨a, w⟩ ⟨h1, h2, h3, h4, h5⟩
        dsimp only at h1 h2 h3 h4 h5
        subst h1
        unfold b_X10_layReach_3
        dsimp only
        rw [if_neg (show ¬ nI 56 < (56 : Int32) by decide), wp_some]
        exact ⟨h2, h3, h4, fun s t hs ht => by rw [h5 s t hs ht, if_pos hs]⟩
    · rintro ⟨a, w⟩ ⟨h1, h2, h3, h4, h5⟩
      dsimp only at h1 h2 h3 h4 h5
      subst h1
      unfold b_X10_layReach_2
      dsimp only
      rw [if_neg (show ¬ nI 56 < (56 : Int32) by decide), wp_some]
      exact ⟨h2, h3, h4, h5⟩
    · obtain ⟨q1, q2, q3, q4⟩ := q
      exact ⟨⟨by rw [q1, e2.1], fun j hj => by rw [q2 j (by omega)]; exact e2.2.1 j hj, by rw [q3, e2.2.2]⟩, fun s t hs ht => by rw [q2 20 (by omega)]; exact e3 s t hs ht, q4⟩
/-! what it reads of them -/
theorem tg_refl (s : Nat) : tg P K s s = true := by unfold tg; rw [rch_refl]; rfl
theorem tg_sym (s t : Nat) : tg P K s t = tg P K t s := Bool.and_comm _ _
theorem m_together (h : GR P K m) (hs : s < 56) (ht : t < 56) : f_X10_areTogether m 0 (nI s) (nI t) = some (tg P K s t) := by
  unfold f_X10_areTogether
  show Option.bind (Option.bind (rdL zM m 21 (nI s)) fun x4 => if f_X10_hasBit x4 (nI t) = true then Option.bind (rdL zM m 21 (nI t)) _ else some false) _ = _
  rw [rdL_M (show s < 56 from hs), Option.bind_some, hasBit_lb (by omega), h s t hs (by omega), rdL_M (show t < 56 from ht)]
  unfold tg
  cases e : rch P K 56 s t with
  | false => rfl
  | true =>
    rw [if_pos rfl, Option.bind_some, hasBit_lb (by omega), h t s ht (by omega)]
    cases rch P K 56 t s <;> rfl
/-- the lowest slot of a slot's component -/
noncomputable def low (P : PK) (K : CK) (s : Nat) : Nat := fstb (fun a => tg P K s a) 56
theorem low_ok (hs : s < 56) : low P K s ≤ s ∧ tg P K s (low P K s) = true ∧ ∀ a, a < low P K s → tg P K s a = false := by
  have h := fstb_ok (p := fun a => tg P K s a) (n := 56) (exb_iff.mpr ⟨s, hs, tg_refl s⟩)
  refine ⟨?_, h.2.1, h.2.2⟩
  rcases Nat.lt_or_ge s (low P K s) with q | q
  · have := h.2.2 s q
    rw [tg_refl] at this
    cases this
  · exact q
theorem m_lowest (h : GR P K m) (hs : s < 56) : f_X10_lowest m 0 (nI s) = some (nI (low P K s)) := by
  obtain ⟨l1, l2, l3⟩ := low_ok (P := P) (K := K) hs
  unfold f_X10_lowest
  refine wp_is ?_
  rw [wp_bind]
  refine wp_mono (lp_inv (fun i r => r = nI i) (fun r => r = nI (low P K s)) (low P K s) ?_ ?_ (by unfold NF; omega) rfl) (fun r q => wp_some.mpr q)
  · rintro i r hi rfl
    unfold b_X10_lowest_1
    rw [m_together h (by omega) hs, Option.bind_some, tg_sym, l3 i hi, if_pos (by decide), wp_some]
    exact nI_1 i
  · rintro r rfl
    unfold b_X10_lowest_1
    rw [m_together h (by omega) hs, Option.bind_some, tg_sym, l2, if_neg (by decide), wp_some]
    rfl
theorem nI_b (b : Bool) (n : Nat) : nI n + (if b = true then (1 : Int32) else 0) = nI (n + (if b = true then 1 else 0)) := by
  cases b with
  | false => exact (nI_add n 0)
  | true => exact (nI_add n 1)
theorem cn_b (q : Nat → Bool) (n : Nat) : cn q (n + 1) = cn q n + (if q n = true then 1 else 0) := rfl
theorem m_sizeOf (h : GR P K m) (hs : s < 56) : f_X10_sizeOf m 0 (nI s) = some (nI (cn (fun a => tg P K s a) 56)) := by
  unfold f_X10_sizeOf
  refine wp_is ?_
  rw [wp_bind]
  refine wp_mono (lp_inv (fun i r => r.2 = nI i ∧ r.1 = nI (cn (fun a => tg P K s a) i)) (fun r => r = nI (cn (fun a => tg P K s a) 56)) 56 ?_ ?_ (by decide) ⟨rfl, rfl⟩) (fun r q => wp_some.mpr q)
  · rintro i ⟨x, a⟩ hi ⟨h1, h2⟩
    dsimp only at h1 h2
    subst h1; subst h2
    unfold b_X10_sizeOf_1
    dsimp only
    rw [if_pos (show nI i < (56 : Int32) from (n_lt (b := 56) (by omega) (by omega)).mpr hi), m_together h hi hs, Option.bind_some, nI_b, tg_sym, wp_some]
    exact ⟨nI_1 i, rfl⟩
  · rintro ⟨x, a⟩ ⟨h1, h2⟩
    dsimp only at h1 h2
    subst h1; subst h2
    unfold b_X10_sizeOf_1
    dsimp only
    rw [if_neg (show ¬ nI 56 < (56 : Int32) by decide), wp_some]
    rfl
end MR
