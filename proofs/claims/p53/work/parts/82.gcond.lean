/-! condensedEdgeCount. -/
section GC2
variable {p : Nat} {P : PK} {K : CK} {c m m' m0 w : Wd} {i o fl s t n a b k f L : Nat} {x : Int64} {v u : Int32}
/-- what reaches what is closed -/
theorem rch_closed (b : Nat) : ∀ j, j < b → ∀ s t, rch P K b s j = true → rch P K b j t = true → rch P K b s t = true := by
  induction b with
  | zero => intro j hj; omega
  | succ b ih =>
    have R : ∀ s t, rch P K (b + 1) s t = (rch P K b s t || (rch P K b s b && rch P K b b t)) := fun s t => rfl
    intro j hj s t h1 h2
    rw [R, Bool.or_eq_true, Bool.and_eq_true] at h1 h2 ⊢
    by_cases e : j = b
    · subst e
      have g1 : rch P K j s j = true := h1.elim id fun z => z.1
      have g2 : rch P K j j t = true := h2.elim id fun z => z.2
      exact Or.inr ⟨g1, g2⟩
    · have hj : j < b := by omega
      rcases h1 with h1 | ⟨h1, h3⟩
      · rcases h2 with h2 | ⟨h2, h4⟩
        · exact Or.inl (ih j hj s t h1 h2)
        · exact Or.inr ⟨ih j hj s b h1 h2, h4⟩
      · rcases h2 with h2 | ⟨h2, h4⟩
        · exact Or.inr ⟨h1, ih j hj b t h3 h2⟩
        · exact Or.inr ⟨h1, h4⟩
theorem tg_trans (hb : b < 56) (h1 : tg P K a b = true) (h2 : tg P K b t = true) : tg P K a t = true := by
  unfold tg at *
  rw [Bool.and_eq_true] at *
  exact ⟨rch_closed 56 b hb a t h1.1 h2.1, rch_closed 56 b hb t a h2.2 h1.2⟩
theorem tg_eq (ha : a < 56) (hb : b < 56) (h : tg P K a b = true) (t : Nat) : tg P K a t = tg P K b t := by
  cases e : tg P K b t with
  | true => exact tg_trans hb h e
  | false =>
    cases e2 : tg P K a t with
    | false => rfl
    | true => rw [tg_trans ha (by rw [tg_sym]; exact h) e2] at e; cases e
theorem low_eq (ha : a < 56) (hb : b < 56) (h : tg P K a b = true) : low P K a = low P K b := (fstb_cong fun i _ => tg_eq ha hb h i).1
theorem low_low (ha : a < 56) : low P K (low P K a) = low P K a := by
  obtain ⟨l1, l2, l3⟩ := low_ok (P := P) (K := K) ha
  exact (low_eq ha (by omega) l2).symm
theorem edn_exi (hP : PWF P) (hK : CWF P K) (h : edn P K s t n = true) : exi P s = true ∧ exi P t = true := by
  have hnv := hP.1
  have hno := hP.2.1
  have hnf := hP.2.2.1
  have V : ∀ y, y < nv P → exi P y = true := fun y hy => by unfold exi; rw [decide_eq_true (show y < nv P ∧ y < 16 by omega)]; rfl
  have F : ∀ o f, o < no P → f < nf P → exi P (16 + 4 * o + f) = true := fun o f h1 h2 => by
    unfold exi
    rw [decide_eq_true (show 16 ≤ 16 + 4 * o + f ∧ (16 + 4 * o + f - 16) / 4 < no P ∧ (16 + 4 * o + f - 16) % 4 < nf P from ⟨by omega, by omega, by omega⟩), Bool.or_true]
  unfold edn at h
  rw [Bool.and_eq_true, Bool.and_eq_true, decide_eq_true_eq] at h
  obtain ⟨⟨⟨hi, hk, hf, h1, h2, h3⟩, he⟩, hv⟩ := h
  obtain ⟨g0, g1, g2, g3, g4, g5, g6⟩ := hK.2.2 _ hi
  have hv := vset_lt hP (LF_ok hP hK) hv
  generalize n / 20 = i at *
  generalize n % 20 / 2 = v at *
  generalize n % 2 = fl at *
  subst h1; subst h2
  unfold fsr ftg
  have hkk : kd K i = 1 ∨ kd K i = 2 ∨ kd K i = 3 ∨ kd K i = 4 := by omega
  rcases hkk with q | q | q | q
  · rw [if_neg (by omega), if_neg (by omega), if_neg (by omega), if_neg (by omega), if_neg (by omega)]
    exact ⟨V _ (g3 q), V _ g1⟩
  · rw [if_pos q, if_neg (by omega), if_neg (by omega)]
    exact ⟨F _ _ (hv.2.1 (by omega)) (g4 q).2, V _ g1⟩
  · rw [if_neg (by omega), if_pos q, if_pos q]
    exact ⟨V _ (g5 q).2, F _ _ (hv.2.1 (by omega)) (g5 q).1⟩
  · have hfn := hP.2.2.2 v (hv.2.2.2.1 q)
    rw [if_neg (show ¬ kd K i = 2 by omega), if_neg (show ¬ kd K i = 3 by omega), if_pos q, if_neg (show ¬ kd K i = 3 by omega), if_pos q]
    by_cases z : fl = 0
    · rw [if_pos z, if_pos z]; exact ⟨V _ (g6 q).2, V _ hfn.2.1⟩
    · rw [if_neg z, if_neg z]; exact ⟨V _ hfn.2.2, V _ g1⟩
theorem ED_exi (hP : PWF P) (hK : CWF P K) (h : ED P K s t = true) : exi P s = true ∧ exi P t = true := by
  obtain ⟨n, hn, h2⟩ := exb_iff.mp h
  exact edn_exi hP hK h2
theorem rch_exi (hP : PWF P) (hK : CWF P K) (b : Nat) : ∀ s t, rch P K b s t = true → s = t ∨ (exi P s = true ∧ exi P t = true) := by
  induction b with
  | zero =>
    intro s t h
    have h : (ED P K s t || decide (s = t)) = true := h
    rw [Bool.or_eq_true, decide_eq_true_eq] at h
    exact h.elim (fun z => Or.inr (ED_exi hP hK z)) Or.inl
  | succ b ih =>
    intro s t h
    have h : (rch P K b s t || (rch P K b s b && rch P K b b t)) = true := h
    rw [Bool.or_eq_true, Bool.and_eq_true] at h
    rcases h with h | ⟨h1, h2⟩
    · exact ih s t h
    · rcases ih s b h1 with q | q
      · subst q; exact ih _ _ h2
      · rcases ih b t h2 with r | r
        · subst r; exact Or.inr q
        · exact Or.inr ⟨q.1, r.2⟩
/-- an edge between components -/
noncomputable def CE (P : PK) (K : CK) (A t : Nat) : Bool := exb (fun b => (exb (fun s => tg P K A s && ED P K s b) 56 && !tg P K A b) && decide (low P K b = t)) 56
noncomputable def de1 (P : PK) (K : CK) (k t a b : Nat) : Bool := (ED P K a b && !tg P K a b) && decide (low P K a = k ∧ low P K b = t)
noncomputable def DE (P : PK) (K : CK) (k t : Nat) : Bool := exb (fun a => exb (de1 P K k t a) 56) 56
theorem DE_eq (hP : PWF P) (hK : CWF P K) (hk : k < 56) : cn (DE P K k) 56 = if isl P K k = true then cn (CE P K k) 56 else 0 := by
  have hD : ∀ t, DE P K k t = true → isl P K k = true := fun t h => by
    obtain ⟨a, ha, h1⟩ := exb_iff.mp h
    obtain ⟨b, hb, h2⟩ := exb_iff.mp h1
    unfold de1 at h2
    rw [Bool.and_eq_true, Bool.and_eq_true, decide_eq_true_eq] at h2
    obtain ⟨⟨h3, h4⟩, h5, h6⟩ := h2
    obtain ⟨l1, l2, l3⟩ := low_ok (P := P) (K := K) ha
    unfold isl
    rw [Bool.and_eq_true, decide_eq_true_eq]
    rw [h5] at l2
    refine ⟨?_, by rw [← h5]; exact low_low ha⟩
    have l2' := l2
    unfold tg at l2'
    rw [Bool.and_eq_true] at l2'
    rcases rch_exi hP hK 56 a k l2'.1 with q | q
    · subst q; exact (ED_exi hP hK h3).1
    · exact q.2
  by_cases hi : isl P K k = true
  · rw [if_pos hi]
    have hkk : low P K k = k := by
      unfold isl at hi
      rw [Bool.and_eq_true, decide_eq_true_eq] at hi
      exact hi.2
    refine cn_cong fun t ht => ?_
    cases e : CE P K k t with
    | true =>
      obtain ⟨b, hb, h1⟩ := exb_iff.mp e
      have h1 : ((exb (fun s => tg P K k s && ED P K s b) 56 && !tg P K k b) && decide (low P K b = t)) = true := h1
      rw [Bool.and_eq_true, Bool.and_eq_true, decide_eq_true_eq] at h1
      obtain ⟨⟨h2, h3⟩, h4⟩ := h1
      obtain ⟨s, hs, h5⟩ := exb_iff.mp h2
      have h5 : (tg P K k s && ED P K s b) = true := h5
      rw [Bool.and_eq_true] at h5
      refine exb_iff.mpr ⟨s, hs, exb_iff.mpr ⟨b, hb, ?_⟩⟩
      unfold de1
      rw [h5.2, ← tg_eq hk hs h5.1 b, h3, decide_eq_true ⟨by rw [← low_eq hk hs h5.1]; exact hkk, h4⟩]; rfl
    | false =>
      cases e2 : DE P K k t with
      | false => rfl
      | true =>
        obtain ⟨a, ha, h1⟩ := exb_iff.mp e2
        obtain ⟨b, hb, h2⟩ := exb_iff.mp h1
        unfold de1 at h2
        rw [Bool.and_eq_true, Bool.and_eq_true, decide_eq_true_eq] at h2
        obtain ⟨⟨h3, h4⟩, h5, h6⟩ := h2
        obtain ⟨l1, l2, l3⟩ := low_ok (P := P) (K := K) ha
        rw [h5, tg_sym] at l2
        have : CE P K k t = true := exb_iff.mpr ⟨b, hb, by
          show ((exb (fun s => tg P K k s && ED P K s b) 56 && !tg P K k b) && decide (low P K b = t)) = true
          rw [exb_iff.mpr ⟨a, ha, by show (tg P K k a && ED P K a b) = true; rw [l2, h3]; rfl⟩, tg_eq hk ha l2 b, h4, decide_eq_true h6]; rfl⟩
        rw [this] at e; cases e
  · rw [if_neg hi]
    have : cn (DE P K k) 56 = cn (fun _ => false) 56 := cn_cong fun t _ => by
      cases e : DE P K k t with
      | false => rfl
      | true => exact absurd (hD t e) hi
    rw [this]
    decide
theorem c_lowestOfAll (hG : GG P K c) (hx : ∀ j, 56 ≤ j → lb x j = false) : wp (f_X1_lowestOfAll c 54 x) (fun r => ∀ t, t < 64 → lb r t = exb (fun b => lb x b && decide (low P K b = t)) 56) := by
  unfold f_X1_lowestOfAll
  rw [wp_bind]
  refine wp_mono (lp_inv (fun i r => r.2 = nI i ∧ ∀ t, t < 64 → lb r.1 t = exb (fun b => lb x b && decide (low P K b = t)) i) (fun r => ∀ t, t < 64 → lb r t = exb (fun b => lb x b && decide (low P K b = t)) 56) 56 ?_ ?_ (by decide) ⟨rfl, fun t ht => l_0 t⟩) (fun r q => wp_some.mpr q)
  · rintro i ⟨y, a⟩ hi ⟨h1, h2⟩
    dsimp only at h1 h2
    subst h1
    have hl := (low_ok (P := P) (K := K) hi).1
    unfold b_X1_lowestOfAll_1
    dsimp only
    rw [if_pos (show nI i < (56 : Int32) from (n_lt (b := 56) (by omega) (by omega)).mpr hi), holds_lb (by omega)]
    cases e : lb x i with
    | false =>
      rw [if_neg (by decide), Option.bind_some, wp_some]
      refine ⟨nI_1 i, fun t ht => ?_⟩
      show lb y t = (exb (fun b => lb x b && decide (low P K b = t)) i || (lb x i && decide (low P K i = t)))
      rw [h2 t ht, e, Bool.false_and, Bool.or_false]
    | true =>
      rw [if_pos rfl, c_lowest hG hi, Option.bind_some, Option.bind_some, wp_some]
      refine ⟨nI_1 i, fun t ht => ?_⟩
      show lb (y ||| jlshl 1 (nI (low P K i))) t = (exb (fun b => lb x b && decide (low P K b = t)) i || (lb x i && decide (low P K i = t)))
      rw [l_put (by omega) ht, h2 t ht, e, Bool.true_and]
      exact congrArg _ (decide_eq_decide.mpr eq_comm)
  · rintro ⟨y, a⟩ ⟨h1, h2⟩
    dsimp only at h1 h2
    subst h1
    unfold b_X1_lowestOfAll_1
    dsimp only
    rw [if_neg (show ¬ nI 56 < (56 : Int32) by decide), wp_some]
    exact h2
theorem c_condensed (hP : PWF P) (hK : CWF P K) (hG : GG P K c) : f_X1_countCondensedEdges c 54 = some (nI (sm (fun k => cn (DE P K k) 56) 56)) := by
  unfold f_X1_countCondensedEdges
  refine wp_is ?_
  rw [wp_bind]
  refine wp_mono (lp_inv (fun i r => r.2 = nI i ∧ r.1 = nI (sm (fun k => cn (DE P K k) 56) i)) (fun r => r = nI (sm (fun k => cn (DE P K k) 56) 56)) 56 ?_ ?_ (by decide) ⟨rfl, rfl⟩) (fun r q => wp_some.mpr q)
  · rintro i ⟨y, a⟩ hi ⟨h1, h2⟩
    dsimp only at h1 h2
    subst h1; subst h2
    unfold b_X1_countCondensedEdges_1
    dsimp only
    rw [if_pos (show nI i < (56 : Int32) from (n_lt (b := 56) (by omega) (by omega)).mpr hi), c_isLowest hG hi, Option.bind_some, sm, DE_eq hP hK hi]
    cases e : isl P K i with
    | false =>
      rw [if_neg (by decide), Option.bind_some, wp_some]
      exact ⟨nI_1 i, rfl⟩
    | true =>
      rw [if_pos rfl]
      obtain ⟨r1, e1, e2⟩ := c_targetsOf hG (c.2.1 57 i)
      have hx : ∀ j, j < 64 → lb (r1 &&& (c.2.1 57 i ^^^ (-1))) j = (exb (fun s => tg P K i s && ED P K s j) 56 && !(decide (j < 56) && tg P K i j)) := fun j hj => by
        rw [l_and, l_not hj, e2 j hj, hG.2.1 i j hi hj]
        rw [(fstb_cong (p := fun s => lb (c.2.1 57 i) s && ED P K s j) (q := fun s => tg P K i s && ED P K s j) (n := 56) fun s hs => by rw [hG.2.1 i s hi (by omega), decide_eq_true hs, Bool.true_and]).2]
      have hx56 : ∀ j, 56 ≤ j → lb (r1 &&& (c.2.1 57 i ^^^ (-1))) j = false := fun j hj => by
        rcases Nat.lt_or_ge j 64 with q | q
        · rw [hx j q]
          have : exb (fun s => tg P K i s && ED P K s j) 56 = false := by
            cases e3 : exb (fun s => tg P K i s && ED P K s j) 56 with
            | false => rfl
            | true =>
              obtain ⟨s, hs, h5⟩ := exb_iff.mp e3
              have h5 : (tg P K i s && ED P K s j) = true := h5
              rw [ED_56 hP hK hj, Bool.and_false] at h5; cases h5
          rw [this]; rfl
        · exact l_big q
      obtain ⟨r2, f1, f2⟩ := c_lowestOfAll hG hx56
      show wp (Option.bind (Option.bind (rdL zC c 57 (nI i)) fun x7 => Option.bind (f_X1_targetsOf c 54 x7) fun x8 => Option.bind (rdL zC c 57 (nI i)) fun x9 => Option.bind (f_X1_lowestOfAll c 54 (x8 &&& (x9 ^^^ (-1 : Int64)))) _) _) _
      rw [rdL_C (show i < 56 from hi), Option.bind_some, e1, Option.bind_some, Option.bind_some, f1, Option.bind_some, Option.bind_some, bc64, nI_add, wp_some]
      refine ⟨nI_1 i, ?_⟩
      dsimp only
      rw [if_pos rfl]
      suffices e5 : cn (lb r2) 64 = cn (CE P K i) 56 by rw [e5]
      rw [cn_stop (n := 56) (k := 64) (by omega) (fun j a b => by
        rw [f2 j b]
        cases e3 : exb (fun y => lb (r1 &&& (c.2.1 57 i ^^^ (-1))) y && decide (low P K y = j)) 56 with
        | false => rfl
        | true =>
          obtain ⟨s, hs, h5⟩ := exb_iff.mp e3
          have h5 : (lb (r1 &&& (c.2.1 57 i ^^^ (-1))) s && decide (low P K s = j)) = true := h5
          rw [Bool.and_eq_true, decide_eq_true_eq] at h5
          have := (low_ok (P := P) (K := K) hs).1
          omega)]
      refine cn_cong fun t ht => ?_
      rw [f2 t (by omega)]
      refine (fstb_cong fun y hy => ?_).2
      rw [hx y (by omega), decide_eq_true hy, Bool.true_and]
  · rintro ⟨y, a⟩ ⟨h1, h2⟩
    dsimp only at h1 h2
    subst h1; subst h2
    unfold b_X1_countCondensedEdges_1
    dsimp only
    rw [if_neg (show ¬ nI 56 < (56 : Int32) by decide), wp_some]
    rfl
/-- the reference's condensed edges, in the making -/
def CDI (m0 : Wd) (E : Nat → Nat → Bool) (w : Wd) : Prop := w.1 = m0.1 ∧ (∀ q, q ≠ 22 → w.2.1 q = m0.2.1 q) ∧ w.2.2 = m0.2.2 ∧ ∀ k t, k < 56 → t < 64 → lb (w.2.1 22 k) t = E k t
theorem GE.keep2 (h : GE P K m0) {E : Nat → Nat → Bool} (q : CDI m0 E w) : GE P K w := fun s t hs ht => by rw [q.2.1 20 (by omega)]; exact h s t hs ht
theorem GR.keep2 (h : GR P K m0) {E : Nat → Nat → Bool} (q : CDI m0 E w) : GR P K w := fun s t hs ht => by rw [q.2.1 21 (by omega)]; exact h s t hs ht
theorem CDI.same {E F : Nat → Nat → Bool} (h : CDI m0 E w) (e : ∀ k t, k < 56 → t < 64 → F k t = E k t) : CDI m0 F w := ⟨h.1, h.2.1, h.2.2.1, fun k t hk ht => by rw [e k t hk ht]; exact h.2.2.2 k t hk ht⟩
theorem q_condensedEdgeCount (h : Base p P K c m) (hg : GC P K c) : QG P K c m (f_X9_condensedEdgeCount c 0) (f_X10_condensedEdgeCount m 0) := by
  have hP := h.2.2.2.2.2.2.1
  have hK := h.2.2.2.2.2.2.2.1
  obtain ⟨c', e1, e2, e3, e4⟩ := c_graphed h hg
  obtain ⟨m', f1, f2, f3, f4⟩ := m_layReach h.m0
  suffices hm : wp (f_X10_condensedEdgeCount m 0) (fun r => r.1 = nI (sm (fun k => cn (DE P K k) 56) 56) ∧ FgM (wsI m 0 0 0) r.2) by
    obtain ⟨⟨r, m2⟩, g1, g2, g3⟩ := hm
    dsimp only at g2 g3
    subst g2
    refine ⟨nI (sm (fun k => cn (DE P K k) 56) 56), c', m2, ?_, g1, e4, e2.gc e3, g3⟩
    unfold f_X9_condensedEdgeCount
    rw [e1, Option.bind_some, c_condensed hP hK e2]; rfl
  unfold f_X10_condensedEdgeCount
  rw [Option.bind_some, f1, Option.bind_some, wp_bind]
  refine wp_mono (lp_inv (fun i r => r.1 = nI i ∧ r.2.1 = m'.1 ∧ (∀ q, q ≠ 22 → r.2.2.1 q = m'.2.1 q) ∧ r.2.2.2 = m'.2.2 ∧ ∀ s, s < i → r.2.2.1 22 s = 0) (fun w => CDI m' (fun _ _ => false) w) 56 ?_ ?_ (by decide) ⟨rfl, rfl, fun q hq => rfl, rfl, fun s hs => by omega⟩) ?_
  · rintro i ⟨a, w⟩ hi ⟨h1, h2, h3, h4, h5⟩
    dsimp only at h1 h2 h3 h4 h5
    subst h1
    unfold b_X10_condensedEdgeCount_1
    dsimp only
    rw [if_pos (show nI i < (56 : Int32) from (n_lt (b := 56) (by omega) (by omega)).mpr hi)]
    show wp (Option.bind (wrL zM w 22 (nI i) 0) _) _
    rw [wrL_M (show i < 56 from hi), Option.bind_some, wp_some]
    refine ⟨nI_1 i, h2, fun q hq => by dsimp only; rw [wsL_o _ _ _ hq]; exact h3 q hq, h4, fun s hs => ?_⟩
    dsimp only
    rw [wsL_s]
    by_cases e : s = i
    · subst e; rw [updL_s]
    · rw [updL_o e]; exact h5 s (by omega)
  · rintro ⟨a, w⟩ ⟨h1, h2, h3, h4, h5⟩
    dsimp only at h1 h2 h3 h4 h5
    subst h1
    unfold b_X10_condensedEdgeCount_1
    dsimp only
    rw [if_neg (show ¬ nI 56 < (56 : Int32) by decide), wp_some]
    exact ⟨h2, h3, h4, fun k t hk ht => by rw [h5 k hk, l_0]⟩
  · intro w0 hw0
    rw [wp_bind]
    refine wp_mono (lp_inv (fun i r => r.1 = nI i ∧ CDI m' (fun k t => exb (fun a => exb (de1 P K k t a) 56) i) r.2) (CDI m' (DE P K)) 56 ?_ ?_ (by decide) ⟨rfl, by exact hw0.same fun k t _ _ => rfl⟩) ?_
    · rintro i ⟨a, w⟩ hi ⟨h1, h2⟩
      dsimp only at h1 h2
      subst h1
      unfold b_X10_condensedEdgeCount_2
      dsimp only
      rw [if_pos (show nI i < (56 : Int32) from (n_lt (b := 56) (by omega) (by omega)).mpr hi), wp_bind]
      refine wp_mono (lp_inv (fun j r => r.1 = nI j ∧ CDI m' (fun k t => exb (fun a => exb (de1 P K k t a) 56) i || exb (de1 P K k t i) j) r.2) (CDI m' (fun k t => exb (fun a => exb (de1 P K k t a) 56) (i + 1))) 56 ?_ ?_ (by decide) ⟨rfl, by exact h2.same fun k t hk ht => by show (_ || false) = _; rw [Bool.or_false]⟩) (fun r q => by rw [wp_some]; exact ⟨nI_1 i, q⟩)
      · rintro j ⟨a, w⟩ hj ⟨h1, h2⟩
        dsimp only at h1 h2
        subst h1
        have gE := f3.keep2 h2
        have gR := f4.keep2 h2
        have li := (low_ok (P := P) (K := K) hi).1
        have lj := (low_ok (P := P) (K := K) hj).1
        unfold b_X10_condensedEdgeCount_3
        dsimp only
        rw [if_pos (show nI j < (56 : Int32) from (n_lt (b := 56) (by omega) (by omega)).mpr hj), m_together gR hi hj, m_lowest gR hi, m_lowest gR hj]
        show wp (Option.bind (Option.bind (Option.bind (rdL zM w 20 (nI i)) _) _) _) _
        rw [rdL_M (show i < 56 from hi), Option.bind_some, hasBit_lb (by omega), gE i j hi (by omega)]
        have off : (ED P K i j && !tg P K i j) = false → wp (some (Sum.inl (nI j + 1, w)) : Option ((Int32 × Wd) ⊕ Wd)) (lpS (fun r : Int32 × Wd => r.1 = nI (j + 1) ∧ CDI m' (fun k t => exb (fun a => exb (de1 P K k t a) 56) i || exb (de1 P K k t i) (j + 1)) r.2) (CDI m' (fun k t => exb (fun a => exb (de1 P K k t a) 56) (i + 1)))) := fun q => by
          rw [wp_some]
          refine ⟨nI_1 j, h2.same fun k t hk ht => ?_⟩
          show (_ || (exb (de1 P K k t i) j || de1 P K k t i j)) = _
          rw [show de1 P K k t i j = false by unfold de1; rw [q]; rfl, Bool.or_false]
        cases e : ED P K i j with
        | false =>
          rw [if_neg (by decide), Option.bind_some, if_neg (by decide), Option.bind_some]
          exact off (by rw [e]; rfl)
        | true =>
          rw [if_pos rfl, Option.bind_some]
          cases e2 : tg P K i j with
          | true =>
            rw [if_pos rfl, Option.bind_some, if_neg (by decide), Option.bind_some]
            exact off (by rw [e2, Bool.not_true, Bool.and_false])
          | false =>
            rw [if_neg (by decide), Option.bind_some, if_pos rfl, Option.bind_some]
            show wp (Option.bind (Option.bind (rdL zM w 22 (nI (low P K i))) fun x20 => Option.bind (some (nI (low P K j))) fun x21 => Option.bind (wrL zM w 22 (nI (low P K i)) (x20 ||| jlshl 1 x21)) _) _) _
            rw [rdL_M (show low P K i < 56 by omega), Option.bind_some, Option.bind_some, wrL_M (show low P K i < 56 by omega), Option.bind_some, Option.bind_some, wp_some]
            obtain ⟨c1, c2, c3, c4⟩ := h2
            refine ⟨nI_1 j, c1, fun q hq => by dsimp only; rw [wsL_o _ _ _ hq]; exact c2 q hq, c3, fun k t hk ht => ?_⟩
            show lb (_) t = (exb (fun a => exb (de1 P K k t a) 56) i || (exb (de1 P K k t i) j || de1 P K k t i j))
            have hde : de1 P K k t i j = decide (low P K i = k ∧ low P K j = t) := by unfold de1; rw [e, e2, Bool.not_false, Bool.true_and, Bool.true_and]
            have c4' : lb (w.2.1 22 k) t = (exb (fun a => exb (de1 P K k t a) 56) i || exb (de1 P K k t i) j) := c4 k t hk ht
            rw [← Bool.or_assoc, ← c4', hde]
            dsimp only
            rw [wsL_s]
            by_cases q : k = low P K i
            · rw [q, updL_s, l_put (by omega) ht]
              exact congrArg _ (decide_eq_decide.mpr ⟨fun z => ⟨rfl, z.symm⟩, fun z => z.2.symm⟩)
            · rw [updL_o q, decide_eq_false (fun z => q z.1.symm), Bool.or_false]
      · rintro ⟨a, w⟩ ⟨h1, h2⟩
        dsimp only at h1 h2
        subst h1
        unfold b_X10_condensedEdgeCount_3
        dsimp only
        rw [if_neg (show ¬ nI 56 < (56 : Int32) by decide), wp_some]
        exact h2
    · rintro ⟨a, w⟩ ⟨h1, h2⟩
      dsimp only at h1 h2
      subst h1
      unfold b_X10_condensedEdgeCount_2
      dsimp only
      rw [if_neg (show ¬ nI 56 < (56 : Int32) by decide), wp_some]
      exact h2
    · intro w1 hw1
      rw [wp_bind]
      refine wp_mono (lp_inv (fun i r => r.2 = nI i ∧ r.1 = nI (sm (fun k => cn (DE P K k) 56) i)) (fun r => r = nI (sm (fun k => cn (DE P K k) 56) 56)) 56 ?_ ?_ (by decide) ⟨rfl, rfl⟩) (fun r q => by
        rw [wp_some]
        exact ⟨q, by dsimp only; rw [hw1.1, f2.1], fun j hj => by dsimp only; rw [hw1.2.1 j (by omega)]; exact f2.2.1 j hj, by dsimp only; rw [hw1.2.2.1, f2.2.2]⟩)
      · rintro i ⟨x, a⟩ hi ⟨h1, h2⟩
        dsimp only at h1 h2
        subst h1; subst h2
        unfold b_X10_condensedEdgeCount_4
        dsimp only
        rw [if_pos (show nI i < (56 : Int32) from (n_lt (b := 56) (by omega) (by omega)).mpr hi), m_bits (w1.2.1 22 i) (DE P K i) (fun t ht => hw1.2.2.2 i t hi (by omega)) (fun s6 => by
          unfold b_X10_condensedEdgeCount_5
          show (if s6.2 < (56 : Int32) then Option.bind (rdL zM w1 22 (nI i)) _ else _) = _
          rw [rdL_M (show i < 56 from hi), Option.bind_some]), Option.bind_some, wp_some]
        exact ⟨nI_1 i, rfl⟩
      · rintro ⟨x, a⟩ ⟨h1, h2⟩
        dsimp only at h1 h2
        subst h1; subst h2
        unfold b_X10_condensedEdgeCount_4
        dsimp only
        rw [if_neg (show ¬ nI 56 < (56 : Int32) by decide), wp_some]
        rfl
end GC2
