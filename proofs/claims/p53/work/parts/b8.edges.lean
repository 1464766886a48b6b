-- deps: b7
/-! The condensed graph; all edges agree. -/
def bJ (b : Bool) : Int32 := if b = true then 1 else 0
theorem bJ_0 {b : Bool} : bJ b = 0 ↔ b = false := by cases b <;> decide
/-- an edge from x's component a to y's component b -/
noncomputable def Qe (P : PK) (K : CK) (a b x y : Nat) : Bool := decide (low P K (sI P x) = sI P a ∧ low P K (sI P y) = sI P b) && EI P K x y
section CD
variable {p : Nat} {P : PK} {K : CK} {c m w : Wd} {fa f : Nat → Int32} {a b k n x : Nat}
theorem lcn_eqI {s t : Nat} (hs : s < 56) (ht : t < 56) : nI (lcn s) = nI (lcn t) ↔ s = t := by
  have h1 := (lcn_lt hs).1
  have h2 := (lcn_lt ht).1
  exact ⟨fun z => lcn_inj ((n_eq (by omega) (by omega)).mp z), fun z => by rw [z]⟩
set_option maxRecDepth 16000 in
theorem is_in (h : WG p P K m w) (hfa : ∀ i, i < nL P → fa i = nI (lcn (sI P i))) (ha : a < nL P) (hb : b < nL P) (hx : x < nL P) {y1 y2 y3 : Int32} {w1 w2 w3 : Wd} :
    ∃ w', lp (b_L_areEdges_504 (nL P) (y1, nI x, w1) fa (y2, nI a, w2) (y3, nI b, w3)) NF ((0 : Int32), (0 : Int32), w) = some (bJ (exb (Qe P K a b x) (nL P)), w') ∧ WG p P K m w' := by
  obtain ⟨hP, hK⟩ := h.pk
  have hle := nL_le hP
  have sa := sI_lt hP ha
  have sb := sI_lt hP hb
  have sx := sI_lt hP hx
  have ex := sI_exi hP hx
  have lx := (low_ok (P := P) (K := K) sx).1
  have key : wp (lp (b_L_areEdges_504 (nL P) (y1, nI x, w1) fa (y2, nI a, w2) (y3, nI b, w3)) NF ((0 : Int32), (0 : Int32), w)) (fun r => r.1 = bJ (exb (Qe P K a b x) (nL P)) ∧ WG p P K m r.2) := by
    refine lp_inv (fun y st => st.1 = bJ (exb (Qe P K a b x) y) ∧ st.2.1 = nI y ∧ WG p P K m st.2.2) _ (nL P) ?_ ?_ (by have : NF = 65536 := rfl; omega) ⟨rfl, rfl, h⟩
    · rintro y ⟨s1, s2, w4⟩ hy ⟨q1, q2, q3⟩
      dsimp only at q1 q2 q3
      subst q1 q2
      have sy := sI_lt hP hy
      have ey := sI_exi hP hy
      have ly := (low_ok (P := P) (K := K) sy).1
      have hstep : exb (Qe P K a b x) (y + 1) = (exb (Qe P K a b x) y || Qe P K a b x y) := rfl
      unfold b_L_areEdges_504
      dsimp only
      rw [if_neg (fun z => by have := (n_le (by omega) (by omega)).mp z; omega)]
      cases hb0 : exb (Qe P K a b x) y with
      | true =>
        rw [if_pos (show ¬ bJ true = 0 by decide), wp_some]
        exact ⟨by dsimp only; rw [exb_mono (by omega) hb0], q3⟩
      | false =>
        rw [if_neg (show ¬ ¬ bJ false = 0 by decide)]
        have no : ∀ w5, WG p P K m w5 → Qe P K a b x y = false → wp (some (.inl ((0 : Int32), nI y + (1 : Int32), w5)) : Option ((Int32 × Int32 × Wd) ⊕ (Int32 × Wd))) (lpS (fun st => st.1 = bJ (exb (Qe P K a b x) (y + 1)) ∧ st.2.1 = nI (y + 1) ∧ WG p P K m st.2.2) (fun r => r.1 = bJ (exb (Qe P K a b x) (nL P)) ∧ WG p P K m r.2)) := fun w5 h5 hz => by
          rw [wp_some]
          exact ⟨by dsimp only; rw [hstep, hb0, hz]; rfl, nI_1 y, h5⟩
        by_cases e : x = y
        · rw [if_pos (show nI x = nI y by rw [e])]
          refine no w4 q3 ?_
          unfold Qe
          cases hE : EI P K x y with
          | false => rw [Bool.and_false]
          | true => exact absurd e (EI_ne hP hK hE)
        · rw [if_neg (show ¬ nI x = nI y from fun z => e ((n_eq (by omega) (by omega)).mp z)), rdI_n hP hx, Option.bind_some, hfa x hx]
          obtain ⟨w5, g1, g2⟩ := e_rep q3 sx ex
          rw [g1, Option.bind_some, rdI_n hP ha, Option.bind_some, hfa a ha]
          dsimp only
          by_cases c1 : low P K (sI P x) = sI P a
          · rw [if_neg (show ¬ ¬ nI (lcn (low P K (sI P x))) = nI (lcn (sI P a)) from fun z => z (by rw [c1])), rdI_n hP hy, Option.bind_some, hfa y hy]
            obtain ⟨w6, g3, g4⟩ := e_rep g2 sy ey
            rw [g3, Option.bind_some, rdI_n hP hb, Option.bind_some, hfa b hb]
            dsimp only
            by_cases c2 : low P K (sI P y) = sI P b
            · obtain ⟨w7, g5, g6⟩ := e_has g4 sx ex sy ey
              rw [if_neg (show ¬ ¬ nI (lcn (low P K (sI P y))) = nI (lcn (sI P b)) from fun z => z (by rw [c2])), Option.bind_some, Option.bind_some, g5, Option.bind_some]
              dsimp only
              rw [if_neg (show ¬ sI P x = sI P y from fun z => e (sI_inj hP hx hy z))]
              cases hE : EI P K x y with
              | false =>
                have hE' : ED P K (sI P x) (sI P y) = false := hE
                rw [hE', if_pos (show ¬ (if (false : Bool) = true then (1 : Int32) else 0) = 1 by decide)]
                exact no w7 g6 (by unfold Qe; rw [hE, Bool.and_false])
              | true =>
                have hE' : ED P K (sI P x) (sI P y) = true := hE
                rw [hE', if_neg (show ¬ ¬ (if (true : Bool) = true then (1 : Int32) else 0) = 1 by decide), wp_some]
                have hq : Qe P K a b x y = true := by unfold Qe; rw [hE, decide_eq_true ⟨c1, c2⟩]; rfl
                exact ⟨by dsimp only; rw [hstep, hb0, hq]; rfl, nI_1 y, g6⟩
            · rw [if_pos (show ¬ nI (lcn (low P K (sI P y))) = nI (lcn (sI P b)) from fun z => c2 ((lcn_eqI (by omega) sb).mp z))]
              exact no w6 g4 (by unfold Qe; rw [decide_eq_false (fun z => c2 z.2), Bool.false_and])
          · rw [if_pos (show ¬ nI (lcn (low P K (sI P x))) = nI (lcn (sI P a)) from fun z => c1 ((lcn_eqI (by omega) sa).mp z))]
            exact no w5 g2 (by unfold Qe; rw [decide_eq_false (fun z => c1 z.1), Bool.false_and])
    · rintro ⟨s1, s2, w4⟩ ⟨q1, q2, q3⟩
      dsimp only at q1 q2 q3
      subst q1 q2
      unfold b_L_areEdges_504
      dsimp only
      rw [if_pos ((n_le (by omega) (by omega)).mpr (Nat.le_refl _)), wp_some]
      exact ⟨rfl, q3⟩
  obtain ⟨⟨r, w'⟩, z1, z2, z3⟩ := key
  dsimp only at z2
  subst z2
  exact ⟨w', z1, z3⟩
theorem is_out (h : WG p P K m w) (hfa : ∀ i, i < nL P → fa i = nI (lcn (sI P i))) (ha : a < nL P) (hb : b < nL P) {y2 y3 : Int32} {w2 w3 : Wd} :
    ∃ w', lp (b_L_areEdges_490 (nL P) fa (y2, nI a, w2) (y3, nI b, w3)) NF ((0 : Int32), (0 : Int32), w) = some (bJ (exb (fun x => exb (Qe P K a b x) (nL P)) (nL P)), w') ∧ WG p P K m w' := by
  obtain ⟨hP, hK⟩ := h.pk
  have hle := nL_le hP
  have key : wp (lp (b_L_areEdges_490 (nL P) fa (y2, nI a, w2) (y3, nI b, w3)) NF ((0 : Int32), (0 : Int32), w)) (fun r => r.1 = bJ (exb (fun x => exb (Qe P K a b x) (nL P)) (nL P)) ∧ WG p P K m r.2) := by
    refine lp_inv (fun x st => st.1 = bJ (exb (fun x => exb (Qe P K a b x) (nL P)) x) ∧ st.2.1 = nI x ∧ WG p P K m st.2.2) _ (nL P) ?_ ?_ (by have : NF = 65536 := rfl; omega) ⟨rfl, rfl, h⟩
    · rintro x ⟨s1, s2, w4⟩ hx ⟨q1, q2, q3⟩
      dsimp only at q1 q2 q3
      subst q1 q2
      have hstep : exb (fun x => exb (Qe P K a b x) (nL P)) (x + 1) = (exb (fun x => exb (Qe P K a b x) (nL P)) x || exb (Qe P K a b x) (nL P)) := rfl
      unfold b_L_areEdges_490
      dsimp only
      rw [if_neg (fun z => by have := (n_le (by omega) (by omega)).mp z; omega)]
      cases hb0 : exb (fun x => exb (Qe P K a b x) (nL P)) x with
      | true =>
        rw [if_pos (show ¬ bJ true = 0 by decide), wp_some]
        exact ⟨by dsimp only; rw [exb_mono (by omega) hb0], q3⟩
      | false =>
        rw [if_neg (show ¬ ¬ bJ false = 0 by decide)]
        obtain ⟨w5, g1, g2⟩ := is_in q3 hfa ha hb hx (y1 := bJ false) (y2 := y2) (y3 := y3) (w1 := w4) (w2 := w2) (w3 := w3)
        rw [show bJ false = 0 from rfl] at g1 ⊢
        rw [g1, Option.bind_some, wp_some]
        exact ⟨by dsimp only; rw [hstep, hb0, Bool.false_or], nI_1 x, g2⟩
    · rintro ⟨s1, s2, w4⟩ ⟨q1, q2, q3⟩
      dsimp only at q1 q2 q3
      subst q1 q2
      unfold b_L_areEdges_490
      dsimp only
      rw [if_pos ((n_le (by omega) (by omega)).mpr (Nat.le_refl _)), wp_some]
      exact ⟨rfl, q3⟩
  obtain ⟨⟨r, w'⟩, z1, z2, z3⟩ := key
  dsimp only at z2
  subst z2
  exact ⟨w', z1, z3⟩
theorem DE_parts (hP : PWF P) (hK : CWF P K) {s t : Nat} (h : DE P K s t = true) : ∃ x y, x < nL P ∧ y < nL P ∧ EI P K x y = true ∧ tg P K (sI P x) (sI P y) = false ∧ low P K (sI P x) = s ∧ low P K (sI P y) = t := by
  obtain ⟨x, hx, h1⟩ := exb_iff.mp h
  obtain ⟨y, hy, h2⟩ := exb_iff.mp h1
  unfold de1 at h2
  rw [Bool.and_eq_true, Bool.and_eq_true, decide_eq_true_eq] at h2
  obtain ⟨⟨h3, h4⟩, h5, h6⟩ := h2
  obtain ⟨e1, e2⟩ := ED_exi hP hK h3
  obtain ⟨i, hi, rfl⟩ := sI_surj hP e1
  obtain ⟨j, hj, rfl⟩ := sI_surj hP e2
  have h7 : tg P K (sI P i) (sI P j) = false := by simpa using h4
  exact ⟨i, j, hi, hj, h3, h7, h5, h6⟩
theorem low_exi (hP : PWF P) (hK : CWF P K) (hx : x < nL P) : exi P (low P K (sI P x)) = true := tg_exi hP hK (sI_exi hP hx) (low_ok (sI_lt hP hx)).2.1
theorem DE_idx (hP : PWF P) (hK : CWF P K) (ha : a < nL P) (hb : b < nL P) : DE P K (sI P a) (sI P b) = (decide (low P K (sI P a) = sI P a ∧ low P K (sI P b) = sI P b ∧ a ≠ b) && exb (fun x => exb (Qe P K a b x) (nL P)) (nL P)) := by
  refine Bool.eq_iff_iff.mpr ?_
  rw [Bool.and_eq_true, decide_eq_true_eq]
  constructor
  · intro h
    obtain ⟨x, y, hx, hy, h1, h2, h3, h4⟩ := DE_parts hP hK h
    have l1 := low_low (P := P) (K := K) (sI_lt hP hx)
    have l2 := low_low (P := P) (K := K) (sI_lt hP hy)
    refine ⟨⟨by rw [← h3]; exact l1, by rw [← h4]; exact l2, fun e => ?_⟩, exb_iff.mpr ⟨x, hx, exb_iff.mpr ⟨y, hy, ?_⟩⟩⟩
    · subst e
      have t1 := (low_ok (P := P) (K := K) (sI_lt hP hx)).2.1
      have t2 := (low_ok (P := P) (K := K) (sI_lt hP hy)).2.1
      rw [h3] at t1
      rw [h4, tg_sym] at t2
      rw [tg_trans (sI_lt hP ha) t1 t2] at h2
      cases h2
    · unfold Qe
      rw [decide_eq_true ⟨h3, h4⟩, h1]; rfl
  · rintro ⟨⟨h1, h2, h3⟩, h4⟩
    obtain ⟨x, hx, h5⟩ := exb_iff.mp h4
    obtain ⟨y, hy, h6⟩ := exb_iff.mp h5
    unfold Qe at h6
    rw [Bool.and_eq_true, decide_eq_true_eq] at h6
    obtain ⟨⟨h7, h8⟩, h9⟩ := h6
    refine exb_iff.mpr ⟨sI P x, sI_lt hP hx, exb_iff.mpr ⟨sI P y, sI_lt hP hy, ?_⟩⟩
    unfold de1
    have ht : tg P K (sI P x) (sI P y) = false := by
      cases e : tg P K (sI P x) (sI P y) with
      | false => rfl
      | true =>
        have := low_eq (sI_lt hP hx) (sI_lt hP hy) e
        rw [h7, h8] at this
        exact absurd (sI_inj hP ha hb this) h3
    rw [decide_eq_true ⟨h7, h8⟩, ht, show ED P K (sI P x) (sI P y) = true from h9]; rfl
set_option maxRecDepth 16000 in
theorem cond_row (h : WG p P K m w) (hfa : ∀ i, i < nL P → fa i = nI (lcn (sI P i))) (ha : a < nL P) (hb : b < nL P) {n0 : Nat} {y2 : Int32} {w2 : Wd} :
    wp (b_L_areEdges_438 (nL P) fa (y2, nI a, w2) (nI n0, nI b, w)) (lpS (fun st => st.1 = nI (n0 + (if DE P K (sI P a) (sI P b) = true then 1 else 0)) ∧ st.2.1 = nI (b + 1) ∧ WG p P K m st.2.2) (fun _ => False)) := by
  obtain ⟨hP, hK⟩ := h.pk
  have hle := nL_le hP
  have sa := sI_lt hP ha
  have sb := sI_lt hP hb
  have la := (low_ok (P := P) (K := K) sa).1
  have lb := (low_ok (P := P) (K := K) sb).1
  have hD := DE_idx (a := a) (b := b) hP hK ha hb
  have no : ∀ w5, WG p P K m w5 → ¬ (low P K (sI P a) = sI P a ∧ low P K (sI P b) = sI P b ∧ a ≠ b) → wp (k_L_areEdges_602 (nI n0, nI b, w) (nI n0) w5) (lpS (fun st => st.1 = nI (n0 + (if DE P K (sI P a) (sI P b) = true then 1 else 0)) ∧ st.2.1 = nI (b + 1) ∧ WG p P K m st.2.2) (fun _ => False)) := fun w5 h5 hz => by
    unfold k_L_areEdges_602
    rw [wp_some]
    refine ⟨?_, nI_1 b, h5⟩
    dsimp only
    rw [hD, decide_eq_false hz, Bool.false_and, if_neg (show ¬ (false : Bool) = true by decide)]; rfl
  obtain ⟨w5, g1, g2⟩ := e_rep h sa (sI_exi hP ha)
  unfold b_L_areEdges_438
  dsimp only
  rw [if_neg (fun z => by have := (n_le (by omega) (by omega)).mp z; omega), rdI_n hP ha, Option.bind_some, hfa a ha, g1, Option.bind_some, Option.bind_some]
  dsimp only
  by_cases c1 : low P K (sI P a) = sI P a
  · obtain ⟨w6, g3, g4⟩ := e_rep g2 sb (sI_exi hP hb)
    rw [if_neg (show ¬ ¬ nI (lcn (low P K (sI P a))) = nI (lcn (sI P a)) from fun z => z (by rw [c1])), rdI_n hP hb, Option.bind_some, hfa b hb, g3, Option.bind_some, Option.bind_some]
    dsimp only
    by_cases c2 : low P K (sI P b) = sI P b
    · rw [if_neg (show ¬ ¬ nI (lcn (low P K (sI P b))) = nI (lcn (sI P b)) from fun z => z (by rw [c2]))]
      by_cases c3 : a = b
      · rw [if_neg (show ¬ ¬ nI a = nI b from fun z => z (by rw [c3]))]
        exact no w6 g4 fun z => z.2.2 c3
      · obtain ⟨w7, g5, g6⟩ := is_out g4 hfa ha hb (y2 := y2) (y3 := nI n0) (w2 := w2) (w3 := w)
        rw [if_pos (show ¬ nI a = nI b from fun z => c3 ((n_eq (by omega) (by omega)).mp z)), g5, Option.bind_some]
        dsimp only
        cases hb0 : exb (fun x => exb (Qe P K a b x) (nL P)) (nL P) with
        | false =>
          rw [if_pos (show bJ false = 0 from rfl)]
          unfold k_L_areEdges_602
          rw [wp_some]
          refine ⟨?_, nI_1 b, g6⟩
          dsimp only
          rw [hD, hb0, Bool.and_false, if_neg (show ¬ (false : Bool) = true by decide)]; exact nI_add n0 0
        | true =>
          rw [if_neg (show ¬ bJ true = 0 by decide)]
          unfold k_L_areEdges_602
          rw [wp_some]
          refine ⟨?_, nI_1 b, g6⟩
          dsimp only
          rw [hD, hb0, decide_eq_true ⟨c1, c2, c3⟩, if_pos (show ((true : Bool) && true) = true from rfl)]; exact nI_1 n0
    · rw [if_pos (show ¬ nI (lcn (low P K (sI P b))) = nI (lcn (sI P b)) from fun z => c2 ((lcn_eqI (by omega) sb).mp z))]
      exact no w6 g4 fun z => c2 z.2.1
  · rw [if_pos (show ¬ nI (lcn (low P K (sI P a))) = nI (lcn (sI P a)) from fun z => c1 ((lcn_eqI (by omega) sa).mp z))]
    exact no w5 g2 fun z => c1 z.1
theorem cond_ok (h : WG p P K m w) (hfa : ∀ i, i < nL P → fa i = nI (lcn (sI P i))) : ∃ w', lp (b_L_areEdges_429 (nL P) fa) NF ((0 : Int32), (0 : Int32), w) = some (nI (sm (fun k => cn (DE P K k) 56) 56), w') ∧ WG p P K m w' := by
  obtain ⟨hP, hK⟩ := h.pk
  have hle := nL_le hP
  have hsum : sm (fun k => cn (DE P K k) 56) 56 = sm (fun a => cn (fun b => DE P K (sI P a) (sI P b)) (nL P)) (nL P) := by
    rw [idx_sm (nL P) 56 (sI P) _ (fun i j h1 h2 => sI_mono hP h1 h2) (fun i hi => sI_lt hP hi) (fun s hs h => by
      have : exb (DE P K s) 56 = true := by
        cases e : exb (DE P K s) 56 with
        | true => rfl
        | false => exact absurd (cn_exb.mpr e) h
      obtain ⟨t, _, ht⟩ := exb_iff.mp this
      obtain ⟨x, y, hx, hy, h1, h2, h3, h4⟩ := DE_parts hP hK ht
      exact sI_surj hP (by rw [← h3]; exact low_exi hP hK hx))]
    refine sm_cong fun a ha => ?_
    exact idx_cn (nL P) 56 (sI P) _ (fun i j h1 h2 => sI_mono hP h1 h2) (fun i hi => sI_lt hP hi) (fun s hs h => by
      obtain ⟨x, y, hx, hy, h1, h2, h3, h4⟩ := DE_parts hP hK h
      exact sI_surj hP (by rw [← h4]; exact low_exi hP hK hy))
  have key : wp (lp (b_L_areEdges_429 (nL P) fa) NF ((0 : Int32), (0 : Int32), w)) (fun r => r.1 = nI (sm (fun a => cn (fun b => DE P K (sI P a) (sI P b)) (nL P)) (nL P)) ∧ WG p P K m r.2) := by
    refine lp_inv (fun a st => st.1 = nI (sm (fun a => cn (fun b => DE P K (sI P a) (sI P b)) (nL P)) a) ∧ st.2.1 = nI a ∧ WG p P K m st.2.2) _ (nL P) ?_ ?_ (by have : NF = 65536 := rfl; omega) ⟨rfl, rfl, h⟩
    · rintro a ⟨s1, s2, w4⟩ ha ⟨q1, q2, q3⟩
      dsimp only at q1 q2 q3
      subst q1 q2
      unfold b_L_areEdges_429
      dsimp only
      rw [if_neg (fun z => by have := (n_le (by omega) (by omega)).mp z; omega)]
      have key2 : wp (lp (b_L_areEdges_438 (nL P) fa (nI (sm (fun a => cn (fun b => DE P K (sI P a) (sI P b)) (nL P)) a), nI a, w4)) NF (nI (sm (fun a => cn (fun b => DE P K (sI P a) (sI P b)) (nL P)) a), (0 : Int32), w4)) (fun r => r.1 = nI (sm (fun a => cn (fun b => DE P K (sI P a) (sI P b)) (nL P)) (a + 1)) ∧ WG p P K m r.2) := by
        refine lp_inv (fun b st => st.1 = nI (sm (fun a => cn (fun b => DE P K (sI P a) (sI P b)) (nL P)) a + cn (fun b => DE P K (sI P a) (sI P b)) b) ∧ st.2.1 = nI b ∧ WG p P K m st.2.2) _ (nL P) ?_ ?_ (by have : NF = 65536 := rfl; omega) ⟨rfl, rfl, q3⟩
        · rintro b ⟨t1, t2, w5⟩ hb ⟨r1, r2, r3⟩
          dsimp only at r1 r2 r3
          subst r1 r2
          obtain ⟨bb, z1, z2⟩ := cond_row r3 hfa ha hb (n0 := sm (fun a => cn (fun b => DE P K (sI P a) (sI P b)) (nL P)) a + cn (fun b => DE P K (sI P a) (sI P b)) b) (y2 := nI (sm (fun a => cn (fun b => DE P K (sI P a) (sI P b)) (nL P)) a)) (w2 := w4)
          refine ⟨bb, z1, ?_⟩
          cases bb with
          | inl s' =>
            obtain ⟨z3, z4⟩ := z2
            exact ⟨by rw [z3, Nat.add_assoc]; rfl, z4⟩
          | inr r => exact z2.elim
        · rintro ⟨t1, t2, w5⟩ ⟨r1, r2, r3⟩
          dsimp only at r1 r2 r3
          subst r1 r2
          unfold b_L_areEdges_438
          dsimp only
          rw [if_pos ((n_le (by omega) (by omega)).mpr (Nat.le_refl _)), wp_some]
          exact ⟨rfl, r3⟩
      obtain ⟨⟨r, w5⟩, z1, z2, z3⟩ := key2
      dsimp only at z2
      subst z2
      rw [z1, Option.bind_some, wp_some]
      exact ⟨rfl, nI_1 a, z3⟩
    · rintro ⟨s1, s2, w4⟩ ⟨q1, q2, q3⟩
      dsimp only at q1 q2 q3
      subst q1 q2
      unfold b_L_areEdges_429
      dsimp only
      rw [if_pos ((n_le (by omega) (by omega)).mpr (Nat.le_refl _)), wp_some]
      exact ⟨rfl, q3⟩
  obtain ⟨⟨r, w'⟩, z1, z2, z3⟩ := key
  dsimp only at z2
  subst z2
  exact ⟨w', by rw [z1, hsum], z3⟩
/-- all edges agree -/
theorem edges_fwd (h : WG p P K m w) (hfa : ∀ i, i < nL P → fa i = nI (lcn (sI P i))) (hf : LT (SS P K (RR P K)) f) : ∃ w', f_L_areEdges w (nL P) fa f = some (1, w') ∧ WG p P K m w' := by
  obtain ⟨hP, hK⟩ := h.pk
  obtain ⟨ff, w1, a1, a2, a3⟩ := pairs_ok h hfa hf
  obtain ⟨w2, b1, b2⟩ := e_cnt a2
  obtain ⟨rq, c1, c2⟩ := ways_ok (K := K) hP a3
  obtain ⟨w3, d1, d2⟩ := comps_ok b2 hfa c2
  obtain ⟨w4, e1, e2⟩ := cond_ok d2 hfa
  obtain ⟨w5, g1, g2⟩ := e_nodes e2
  obtain ⟨w6, i1, i2⟩ := e_cyc g2
  obtain ⟨w7, j1, j2⟩ := e_cond i2
  refine ⟨w7, ?_, j2⟩
  unfold f_L_areEdges
  rw [a1, Option.bind_some]
  dsimp only
  rw [b1, Option.bind_some]
  dsimp only
  rw [if_pos (by rw [edges_sum hP hK]), c1, Option.bind_some, d1, Option.bind_some]
  dsimp only
  rw [e1, Option.bind_some]
  dsimp only
  rw [g1, Option.bind_some]
  dsimp only
  rw [if_neg (fun z => z rfl), i1, Option.bind_some]
  dsimp only
  rw [if_neg (fun z => z rfl), j1, Option.bind_some]
  dsimp only
  rw [if_neg (fun z => z rfl)]
end CD
