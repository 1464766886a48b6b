/-! The class's CopyGraph: existing slots, reached slots, components; build and graphed. -/
section GB
variable {p : Nat} {P : PK} {K : CK} {c c0 m w : Wd} {i v fl s t n b k : Nat} {x : Int64}
theorem loc_n (hs : s < 56) : f_X9_locationOf (nI s) = if s < 16 then nI s else nI (s + 84) := by
  unfold f_X9_locationOf
  by_cases h : s < 16
  · rw [if_pos (show nI s < (16 : Int32) from (n_lt (b := 16) (by omega) (by omega)).mpr h), if_pos h]
  · rw [if_neg (show ¬ nI s < (16 : Int32) from fun z => h ((n_lt (b := 16) (by omega) (by omega)).mp z)), if_neg h, show nI s - 16 = nI (s - 16) from pk_sub (b := 16) (by omega)]
    show nI (s - 16) + nI 100 = _
    rw [nI_add, show s - 16 + 100 = s + 84 by omega]
theorem slI_loc (hP : PWF P) (hs : s < 56) : slI P (f_X9_locationOf (nI s)) = if exi P s = true then nI s else -1 := by
  have h1 := hP.1
  have h2 := hP.2.1
  have h3 := hP.2.2.1
  rw [loc_n hs]
  unfold slI exi
  by_cases h : s < 16
  · rw [if_pos h, decide_eq_false (show ¬ (16 ≤ s ∧ (s - 16) / 4 < no P ∧ (s - 16) % 4 < nf P) by omega), Bool.or_false]
    by_cases q : s < nv P
    · rw [if_pos ⟨nI_pos' (by omega), (n_lt (by omega) (by omega)).mpr q⟩, if_pos (decide_eq_true ⟨q, h⟩)]
    · rw [if_neg (fun z => q ((n_lt (by omega) (by omega)).mp z.2)), if_pos (Or.inl (show nI s < (100 : Int32) from (n_lt (b := 100) (by omega) (by omega)).mpr (by omega))), if_neg (fun z => q (of_decide_eq_true z).1)]
  · rw [if_neg h, if_neg (fun z => by have := (n_lt (by omega) (by omega)).mp z.2; omega), if_neg (show ¬ (nI (s + 84) < (100 : Int32) ∨ (140 : Int32) ≤ nI (s + 84)) from fun z => z.elim (fun y => by have := (n_lt (b := 100) (by omega) (by omega)).mp y; omega) (fun y => by have := (n_le (a := 140) (by omega) (by omega)).mp y; omega)),
      show nI (s + 84) - 100 = nI (s - 16) from (pk_sub (b := 100) (by omega)).trans (by rw [show s + 84 - 100 = s - 16 by omega]), n_div (by omega), n_rem (by omega), decide_eq_false (show ¬ (s < nv P ∧ s < 16) by omega), Bool.false_or]
    by_cases q : (s - 16) / 4 < no P ∧ (s - 16) % 4 < nf P
    · rw [if_pos (decide_eq_true ⟨(n_lt (by omega) (by omega)).mpr q.1, (n_lt (by omega) (by omega)).mpr q.2⟩), if_pos (decide_eq_true ⟨by omega, q⟩), fslot, show 16 + 4 * ((s - 16) / 4) + (s - 16) % 4 = s by omega]
    · rw [if_neg (fun z => q ⟨(n_lt (by omega) (by omega)).mp (of_decide_eq_true z).1, (n_lt (by omega) (by omega)).mp (of_decide_eq_true z).2⟩), if_neg (fun z => q (of_decide_eq_true z).2)]
theorem slot_loc (hp : PC p) (hP : RPc c p P) {y : Int32} : f_X6_slotAt c p y = slI P y := by
  unfold f_X6_slotAt slI
  rw [zp0 hp, zp1 hp, zp2 hp, hP.1, hP.2.1, hP.2.2.1]
theorem c_findExisting (hp : PC p) (hP : RPc c p P) (hPw : PWF P) : wp (f_X1_findExisting c 54 p) (fun w => w.1 = c.1 ∧ (∀ q, q ≠ 54 → w.2.1 q = c.2.1 q) ∧ w.2.2 = c.2.2 ∧ ∀ s, s < 64 → lb (w.2.1 54 3) s = (decide (s < 56) && exi P s)) := by
  unfold f_X1_findExisting
  rw [wp_bind, wp_some, wp_bind]
  refine wp_mono (lp_inv (fun i r => r.1 = nI i ∧ r.2.1 = c.1 ∧ (∀ q, q ≠ 54 → r.2.2.1 q = c.2.1 q) ∧ r.2.2.2 = c.2.2 ∧ ∀ s, s < 64 → lb (r.2.2.1 54 3) s = (decide (s < i) && exi P s)) (fun w => w.1 = c.1 ∧ (∀ q, q ≠ 54 → w.2.1 q = c.2.1 q) ∧ w.2.2 = c.2.2 ∧ ∀ s, s < 64 → lb (w.2.1 54 3) s = (decide (s < 56) && exi P s)) 56 ?_ ?_ (by decide) ⟨rfl, rfl, fun q hq => wsL_o _ _ _ hq, rfl, fun s hs => ?_⟩) (fun r q => wp_some.mpr q)
  · rintro i ⟨a, w⟩ hi ⟨h1, h2, h3, h4, h5⟩
    dsimp only at h1 h2 h3 h4 h5
    subst h1
    unfold b_X1_findExisting_1
    dsimp only
    have hPw' : RPc w p P := by unfold RPc at *; rw [h2]; exact hP
    rw [if_pos (show nI i < (56 : Int32) from (n_lt (b := 56) (by omega) (by omega)).mpr hi), slot_loc hp hPw', slI_loc hPw hi]
    cases e : exi P i with
    | false =>
      rw [if_neg (show ¬ (if false = true then nI i else -1) = nI i from fun z => n_m1 (a := i) (by omega) (by rw [if_neg (by decide)] at z; exact z.symm)), Option.bind_some, wp_some]
      refine ⟨nI_1 i, h2, h3, h4, fun s hs => ?_⟩
      dsimp only
      rw [h5 s hs]
      by_cases q : s = i
      · subst q; rw [e, Bool.and_false, Bool.and_false]
      · rw [show decide (s < i + 1) = decide (s < i) from decide_eq_decide.mpr (by omega)]
    | true =>
      rw [if_pos rfl, if_pos rfl, Option.bind_some, Option.bind_some, wp_some]
      refine ⟨nI_1 i, h2, fun q hq => by dsimp only; rw [wsL_o _ _ _ hq]; exact h3 q hq, h4, fun s hs => ?_⟩
      dsimp only
      rw [wsL_s, updL_s, l_put (by omega) hs, h5 s hs]
      by_cases q : s = i
      · subst q; rw [e]; simp
      · rw [decide_eq_false q, Bool.or_false, show decide (s < i + 1) = decide (s < i) from decide_eq_decide.mpr (by omega)]
  · rintro ⟨a, w⟩ ⟨h1, h2, h3, h4, h5⟩
    dsimp only at h1 h2 h3 h4 h5
    subst h1
    unfold b_X1_findExisting_1
    dsimp only
    rw [if_neg (show ¬ nI 56 < (56 : Int32) by decide), wp_some]
    exact ⟨h2, h3, h4, h5⟩
  · dsimp only
    rw [wsL_s, updL_s, l_0, decide_eq_false (by omega)]; rfl
theorem rch_refl (b s : Nat) : rch P K b s s = true := by
  induction b with
  | zero => show (ED P K s s || decide (s = s)) = true; rw [decide_eq_true rfl, Bool.or_true]
  | succ b ih => show (rch P K b s s || _) = true; rw [ih]; rfl
theorem rch_row (b t : Nat) : rch P K (b + 1) b t = rch P K b b t := by
  show (rch P K b b t || (rch P K b b b && rch P K b b t)) = _
  rw [rch_refl, Bool.true_and, Bool.or_self]
theorem c_findReached (hT : ∀ s t, s < 56 → t < 64 → lb (c.2.1 55 s) t = ED P K s t) : wp (f_X1_findReached c 54) (fun w => w.1 = c.1 ∧ (∀ q, q ≠ 56 → w.2.1 q = c.2.1 q) ∧ w.2.2 = c.2.2 ∧ ∀ s t, s < 56 → t < 64 → lb (w.2.1 56 s) t = rch P K 56 s t) := by
  unfold f_X1_findReached
  rw [wp_bind]
  refine wp_mono (lp_inv (fun i r => r.1 = nI i ∧ r.2.1 = c.1 ∧ (∀ q, q ≠ 56 → r.2.2.1 q = c.2.1 q) ∧ r.2.2.2 = c.2.2 ∧ ∀ s t, s < i → t < 64 → lb (r.2.2.1 56 s) t = rch P K 0 s t) (fun w => w.1 = c.1 ∧ (∀ q, q ≠ 56 → w.2.1 q = c.2.1 q) ∧ w.2.2 = c.2.2 ∧ ∀ s t, s < 56 → t < 64 → lb (w.2.1 56 s) t = rch P K 0 s t) 56 ?_ ?_ (by decide) ⟨rfl, rfl, fun q hq => rfl, rfl, fun s t hs => by omega⟩) ?_
  · rintro i ⟨a, w⟩ hi ⟨h1, h2, h3, h4, h5⟩
    dsimp only at h1 h2 h3 h4 h5
    subst h1
    unfold b_X1_findReached_1
    dsimp only
    rw [if_pos (show nI i < (56 : Int32) from (n_lt (b := 56) (by omega) (by omega)).mpr hi)]
    show wp (Option.bind (rdL zC w 55 (nI i)) fun x4 => Option.bind (wrL zC w 56 (nI i) (x4 ||| jlshl 1 (nI i))) _) _
    rw [rdL_C (show i < 56 from hi), Option.bind_some, wrL_C (show i < 56 from hi), Option.bind_some, wp_some]
    refine ⟨nI_1 i, h2, fun q hq => by dsimp only; rw [wsL_o _ _ _ hq]; exact h3 q hq, h4, fun s t hs ht => ?_⟩
    dsimp only
    rw [wsL_s]
    by_cases e : s = i
    · subst e
      rw [updL_s, l_put (by omega) ht, h3 55 (by omega), hT s t hi ht]
      show _ = (ED P K s t || decide (s = t))
      congr 1
      exact decide_eq_decide.mpr eq_comm
    · rw [updL_o e]; exact h5 s t (by omega) ht
  · rintro ⟨a, w⟩ ⟨h1, h2, h3, h4, h5⟩
    dsimp only at h1 h2 h3 h4 h5
    subst h1
    unfold b_X1_findReached_1
    dsimp only
    rw [if_neg (show ¬ nI 56 < (56 : Int32) by decide), wp_some]
    exact ⟨h2, h3, h4, h5⟩
  · rintro w0 ⟨g2, g3, g4, g5⟩
    rw [wp_bind]
    refine wp_mono (lp_inv (fun b r => r.1 = nI b ∧ r.2.1 = c.1 ∧ (∀ q, q ≠ 56 → r.2.2.1 q = c.2.1 q) ∧ r.2.2.2 = c.2.2 ∧ ∀ s t, s < 56 → t < 64 → lb (r.2.2.1 56 s) t = rch P K b s t) (fun w => w.1 = c.1 ∧ (∀ q, q ≠ 56 → w.2.1 q = c.2.1 q) ∧ w.2.2 = c.2.2 ∧ ∀ s t, s < 56 → t < 64 → lb (w.2.1 56 s) t = rch P K 56 s t) 56 ?_ ?_ (by decide) ⟨rfl, g2, g3, g4, g5⟩) (fun r q => wp_some.mpr q)
    · rintro b ⟨a, w⟩ hb ⟨h1, h2, h3, h4, h5⟩
      dsimp only at h1 h2 h3 h4 h5
      subst h1
      unfold b_X1_findReached_2
      dsimp only
      rw [if_pos (show nI b < (56 : Int32) from (n_lt (b := 56) (by omega) (by omega)).mpr hb), wp_bind]
      refine wp_mono (lp_inv (fun k r => r.1 = nI k ∧ r.2.1 = c.1 ∧ (∀ q, q ≠ 56 → r.2.2.1 q = c.2.1 q) ∧ r.2.2.2 = c.2.2 ∧ ∀ s t, s < 56 → t < 64 → lb (r.2.2.1 56 s) t = if s < k then rch P K (b + 1) s t else rch P K b s t) (fun w => w.1 = c.1 ∧ (∀ q, q ≠ 56 → w.2.1 q = c.2.1 q) ∧ w.2.2 = c.2.2 ∧ ∀ s t, s < 56 → t < 64 → lb (w.2.1 56 s) t = rch P K (b + 1) s t) 56 ?_ ?_ (by decide) ⟨rfl, h2, h3, h4, fun s t hs ht => by rw [if_neg (by omega)]; exact h5 s t hs ht⟩) (fun r q => by rw [wp_some]; exact ⟨nI_1 b, q⟩)
      · rintro k ⟨a, w⟩ hk ⟨h1, h2, h3, h4, h5⟩
        dsimp only at h1 h2 h3 h4 h5
        subst h1
        unfold b_X1_findReached_3
        dsimp only
        have hkb : lb (w.2.1 56 k) b = rch P K b k b := by rw [h5 k b hk (by omega), if_neg (by omega)]
        have hb2 : ∀ t, t < 64 → lb (w.2.1 56 b) t = rch P K b b t := fun t ht => by
          rw [h5 b t hb ht]
          split
          · exact rch_row b t
          · rfl
        have hkt : ∀ t, t < 64 → lb (w.2.1 56 k) t = rch P K b k t := fun t ht => by rw [h5 k t hk ht, if_neg (by omega)]
        rw [if_pos (show nI k < (56 : Int32) from (n_lt (b := 56) (by omega) (by omega)).mpr hk)]
        show wp (Option.bind (Option.bind (rdL zC w 56 (nI k)) fun x13 => if f_X9_holds x13 (nI b) = true then Option.bind (rdL zC w 56 (nI k)) fun x15 => Option.bind (rdL zC w 56 (nI b)) fun x16 => Option.bind (wrL zC w 56 (nI k) (x15 ||| x16)) _ else _) _) _
        rw [rdL_C (show k < 56 from hk), Option.bind_some, holds_lb (by omega), hkb]
        cases e : rch P K b k b with
        | false =>
          rw [if_neg (by decide), Option.bind_some, wp_some]
          refine ⟨nI_1 k, h2, h3, h4, fun s t hs ht => ?_⟩
          dsimp only
          by_cases q : s = k
          · subst q
            rw [hkt t ht, if_pos (by omega)]
            show _ = (rch P K b s t || (rch P K b s b && _))
            rw [e, Bool.false_and, Bool.or_false]
          · rw [h5 s t hs ht]
            by_cases q2 : s < k
            · rw [if_pos q2, if_pos (by omega)]
            · rw [if_neg q2, if_neg (by omega)]
        | true =>
          rw [if_pos rfl, Option.bind_some, rdL_C (show b < 56 from hb), Option.bind_some, wrL_C (show k < 56 from hk), Option.bind_some, Option.bind_some, wp_some]
          refine ⟨nI_1 k, h2, fun q hq => by dsimp only; rw [wsL_o _ _ _ hq]; exact h3 q hq, h4, fun s t hs ht => ?_⟩
          dsimp only
          rw [wsL_s]
          by_cases q : s = k
          · subst q
            rw [updL_s, l_or, hkt t ht, hb2 t ht, if_pos (by omega)]
            show _ = (rch P K b s t || (rch P K b s b && _))
            rw [e, Bool.true_and]
          · rw [updL_o q, h5 s t hs ht]
            by_cases q2 : s < k
            · rw [if_pos q2, if_pos (by omega)]
            · rw [if_neg q2, if_neg (by omega)]
      · rintro ⟨a, w⟩ ⟨h1, h2, h3, h4, h5⟩
        dsimp only at h1 h2 h3 h4 h5
        subst h1
        unfold b_X1_findReached_3
        dsimp only
        rw [if_neg (show ¬ nI 56 < (56 : Int32) by decide), wp_some]
        exact ⟨h2, h3, h4, fun s t hs ht => by rw [h5 s t hs ht, if_pos hs]⟩
    · rintro ⟨a, w⟩ ⟨h1, h2, h3, h4, h5⟩
      dsimp only at h1 h2 h3 h4 h5
      subst h1
      unfold b_X1_findReached_2
      dsimp only
      rw [if_neg (show ¬ nI 56 < (56 : Int32) by decide), wp_some]
      exact ⟨h2, h3, h4, h5⟩
theorem c_findComponents (hT : ∀ s t, s < 56 → t < 64 → lb (c.2.1 56 s) t = rch P K 56 s t) : wp (f_X1_findComponents c 54) (fun w => w.1 = c.1 ∧ (∀ q, q ≠ 57 → w.2.1 q = c.2.1 q) ∧ w.2.2 = c.2.2 ∧ ∀ s t, s < 56 → t < 64 → lb (w.2.1 57 s) t = (decide (t < 56) && tg P K s t)) := by
  unfold f_X1_findComponents
  rw [wp_bind]
  refine wp_mono (lp_inv (fun i r => r.1 = nI i ∧ r.2.1 = c.1 ∧ (∀ q, q ≠ 57 → r.2.2.1 q = c.2.1 q) ∧ r.2.2.2 = c.2.2 ∧ ∀ s t, s < i → t < 64 → lb (r.2.2.1 57 s) t = (decide (t < 56) && tg P K s t)) (fun w => w.1 = c.1 ∧ (∀ q, q ≠ 57 → w.2.1 q = c.2.1 q) ∧ w.2.2 = c.2.2 ∧ ∀ s t, s < 56 → t < 64 → lb (w.2.1 57 s) t = (decide (t < 56) && tg P K s t)) 56 ?_ ?_ (by decide) ⟨rfl, rfl, fun q hq => rfl, rfl, fun s t hs => by omega⟩) (fun r q => wp_some.mpr q)
  · rintro i ⟨a, w⟩ hi ⟨h1, h2, h3, h4, h5⟩
    dsimp only at h1 h2 h3 h4 h5
    subst h1
    unfold b_X1_findComponents_1
    dsimp only
    have hR : ∀ s t, s < 56 → t < 64 → lb (w.2.1 56 s) t = rch P K 56 s t := fun s t hs ht => by rw [h3 56 (by omega)]; exact hT s t hs ht
    rw [if_pos (show nI i < (56 : Int32) from (n_lt (b := 56) (by omega) (by omega)).mpr hi), wp_bind]
    refine wp_mono (lp_inv (fun k r => r.2 = nI k ∧ ∀ t, t < 64 → lb r.1 t = (decide (t < k) && tg P K i t)) (fun r => ∀ t, t < 64 → lb r t = (decide (t < 56) && tg P K i t)) 56 ?_ ?_ (by decide) ⟨rfl, fun t ht => by rw [l_0, decide_eq_false (by omega)]; rfl⟩) (fun r q => ?_)
    · rintro k ⟨x, a⟩ hk ⟨g1, g2⟩
      dsimp only at g1 g2
      subst g1
      unfold b_X1_findComponents_2
      dsimp only
      rw [if_pos (show nI k < (56 : Int32) from (n_lt (b := 56) (by omega) (by omega)).mpr hk)]
      show wp (Option.bind (Option.bind (Option.bind (rdL zC w 56 (nI i)) fun x10 => if f_X9_holds x10 (nI k) = true then Option.bind (rdL zC w 56 (nI k)) _ else _) _) _) _
      rw [rdL_C (show i < 56 from hi), Option.bind_some, holds_lb (by omega), hR i k hi (by omega), rdL_C (show k < 56 from hk)]
      have fin : ∀ b : Bool, b = tg P K i k → wp (Option.bind (Option.bind (some b) (fun b8 => if b8 = true then some (x ||| jlshl 1 (nI k)) else some x)) (fun s7 => some (Sum.inl (s7, nI k + 1)))) (lpS (fun r : Int64 × Int32 => r.2 = nI (k + 1) ∧ ∀ t, t < 64 → lb r.1 t = (decide (t < k + 1) && tg P K i t)) (fun r : Int64 => ∀ t, t < 64 → lb r t = (decide (t < 56) && tg P K i t))) := by
        intro b hb
        rw [Option.bind_some]
        cases e : b with
        | false =>
          rw [if_neg (by decide), Option.bind_some, wp_some]
          refine ⟨nI_1 k, fun t ht => ?_⟩
          dsimp only
          rw [g2 t ht]
          by_cases q : t = k
          · subst q; rw [← hb, e, Bool.and_false, Bool.and_false]
          · rw [show decide (t < k + 1) = decide (t < k) from decide_eq_decide.mpr (by omega)]
        | true =>
          rw [if_pos rfl, Option.bind_some, wp_some]
          refine ⟨nI_1 k, fun t ht => ?_⟩
          dsimp only
          rw [l_put (by omega) ht, g2 t ht]
          by_cases q : t = k
          · subst q; rw [← hb, e]; simp
          · rw [decide_eq_false q, Bool.or_false, show decide (t < k + 1) = decide (t < k) from decide_eq_decide.mpr (by omega)]
      cases e : rch P K 56 i k with
      | false =>
        rw [if_neg (by decide)]
        exact fin false (by unfold tg; rw [e]; rfl)
      | true =>
        rw [if_pos rfl, Option.bind_some, holds_lb (by omega), hR k i hk (by omega)]
        cases e2 : rch P K 56 k i with
        | false =>
          rw [if_neg (by decide)]
          exact fin false (by unfold tg; rw [e, e2]; rfl)
        | true =>
          rw [if_pos rfl]
          exact fin true (by unfold tg; rw [e, e2]; rfl)
    · rintro ⟨x, a⟩ ⟨g1, g2⟩
      dsimp only at g1 g2
      subst g1
      unfold b_X1_findComponents_2
      dsimp only
      rw [if_neg (show ¬ nI 56 < (56 : Int32) by decide), wp_some]
      exact g2
    · show wp (Option.bind (wrL zC w 57 (nI i) r) _) _
      rw [wrL_C (show i < 56 from hi), Option.bind_some, wp_some]
      refine ⟨nI_1 i, h2, fun q hq => by dsimp only; rw [wsL_o _ _ _ hq]; exact h3 q hq, h4, fun s t hs ht => ?_⟩
      dsimp only
      rw [wsL_s]
      by_cases e : s = i
      · subst e; rw [updL_s]; exact q t ht
      · rw [updL_o e]; exact h5 s t (by omega) ht
  · rintro ⟨a, w⟩ ⟨h1, h2, h3, h4, h5⟩
    dsimp only at h1 h2 h3 h4 h5
    subst h1
    unfold b_X1_findComponents_1
    dsimp only
    rw [if_neg (show ¬ nI 56 < (56 : Int32) by decide), wp_some]
    exact ⟨h2, h3, h4, h5⟩
end GB
