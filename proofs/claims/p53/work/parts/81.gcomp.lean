/-! The graph's calls on components. -/
section GK
variable {p : Nat} {P : PK} {K : CK} {c m m' m0 w : Wd} {i o fl s t n b k f L : Nat} {x : Int64} {v u : Int32}
theorem comp_cn (hG : GG P K c) (hs : s < 56) : cn (lb (c.2.1 57 s)) 64 = cn (fun a => tg P K s a) 56 := by
  rw [cn_stop (n := 56) (k := 64) (by omega) (fun j a b => by rw [hG.2.1 s j hs b, decide_eq_false (by omega)]; rfl)]
  exact cn_cong fun j hj => by rw [hG.2.1 s j hs (by omega), decide_eq_true hj, Bool.true_and]
theorem c_lowest (hG : GG P K c) (hs : s < 56) : f_X1_lowestOf c 54 (nI s) = some (nI (low P K s)) := by
  obtain ⟨l1, l2, l3⟩ := low_ok (P := P) (K := K) hs
  unfold f_X1_lowestOf
  show Option.bind (rdL zC c 57 (nI s)) _ = _
  rw [rdL_C (show s < 56 from hs), Option.bind_some, ntz64 (t := low P K s) (by rw [hG.2.1 s _ hs (by omega), l2, decide_eq_true (by omega)]; rfl) (fun j hj => by rw [hG.2.1 s j hs (by omega), l3 j hj, Bool.and_false])]
  rfl
theorem m_locOf (hs : s < 56) : f_X10_locationOf (nI s) = f_X9_locationOf (nI s) := by
  rw [loc_n hs]
  unfold f_X10_locationOf
  by_cases h : s < 16
  · rw [if_pos (show nI s < (16 : Int32) from (n_lt (b := 16) (by omega) (by omega)).mpr h), if_pos h]
  · rw [if_neg (show ¬ nI s < (16 : Int32) from fun z => h ((n_lt (b := 16) (by omega) (by omega)).mp z)), if_neg h, show nI s - 16 = nI (s - 16) from pk_sub (b := 16) (by omega)]
    show nI (s - 16) + nI 100 = _
    rw [nI_add, show s - 16 + 100 = s + 84 by omega]
theorem m_exists (h : Base p P K c m) (hs : s < 56) : f_X10_exists m 0 (nI s) = some (exi P s) := by
  have hP := h.2.2.2.2.2.2.1
  have h1 := hP.1
  have h2 := hP.2.1
  have h3 := hP.2.2.1
  unfold f_X10_exists exi
  by_cases q : s < 16
  · rw [if_pos (show nI s < (16 : Int32) from (n_lt (b := 16) (by omega) (by omega)).mpr q), m_isVariable h, inR_n (by omega) (by omega), decide_eq_false (show ¬ (16 ≤ s ∧ (s - 16) / 4 < no P ∧ (s - 16) % 4 < nf P) by omega), Bool.or_false, show decide (s < nv P ∧ s < 16) = decide (s < nv P) from decide_eq_decide.mpr ⟨fun z => z.1, fun z => ⟨z, q⟩⟩]
    rfl
  · rw [if_neg (show ¬ nI s < (16 : Int32) from fun z => q ((n_lt (b := 16) (by omega) (by omega)).mp z)), show nI s - 16 = nI (s - 16) from pk_sub (b := 16) (by omega), n_div (by omega), n_rem (by omega), m_isObject h, m_isField h, inR_n (by omega) (by omega), inR_n (by omega) (by omega), Option.bind_some, decide_eq_false (show ¬ (s < nv P ∧ s < 16) by omega), Bool.false_or]
    by_cases q1 : (s - 16) / 4 < no P
    · rw [decide_eq_true q1, if_pos rfl, Option.bind_some]
      by_cases q2 : (s - 16) % 4 < nf P
      · rw [decide_eq_true q2, decide_eq_true (show 16 ≤ s ∧ (s - 16) / 4 < no P ∧ (s - 16) % 4 < nf P from ⟨by omega, q1, q2⟩)]; rfl
      · rw [decide_eq_false q2, decide_eq_false (show ¬ (16 ≤ s ∧ (s - 16) / 4 < no P ∧ (s - 16) % 4 < nf P) from fun z => q2 z.2.2)]; rfl
    · rw [decide_eq_false q1, decide_eq_false (show ¬ (16 ≤ s ∧ (s - 16) / 4 < no P ∧ (s - 16) % 4 < nf P) from fun z => q1 z.2.1)]; rfl
theorem q_componentSize (h : Base p P K c m) (hg : GC P K c) : QG P K c m (f_X9_componentSize c 0 v) (f_X10_componentSize m 0 v) := by
  have hP := h.2.2.2.2.2.2.1
  unfold QG f_X9_componentSize f_X10_componentSize
  rw [h.rp, Option.bind_some, Option.bind_some, m_index h.m0, Option.bind_some, c_slot h]
  rcases slI_cases (P := P) (v := v) hP with e | ⟨s, hs, e⟩
  · rw [e, if_pos rfl, if_pos (by decide)]
    exact ⟨_, _, _, rfl, rfl, FgC.refl c, hg, FgM.refl _⟩
  · have hs := hs.lt hP
    rw [e, if_neg (n_m1 (by omega)), if_neg (n_neg (by omega))]
    obtain ⟨c', e1, e2, e3, e4⟩ := c_graphed h hg
    obtain ⟨m', f1, f2, f3, f4⟩ := m_layReach h.m0
    rw [e1, Option.bind_some, f1, Option.bind_some, m_sizeOf f4 hs]
    show ∃ r c'' m'', Option.bind (Option.bind (rdL zC c' 57 (nI s)) _) _ = _ ∧ _
    rw [rdL_C (show s < 56 by omega), Option.bind_some, Option.bind_some, bc64, comp_cn e2 hs]
    exact ⟨_, _, _, rfl, rfl, e4, e2.gc e3, f2⟩
theorem q_representative (h : Base p P K c m) (hg : GC P K c) : QG P K c m (f_X9_representative c 0 v) (f_X10_representative m 0 v) := by
  have hP := h.2.2.2.2.2.2.1
  unfold QG f_X9_representative f_X10_representative
  rw [h.rp, Option.bind_some, Option.bind_some, m_index h.m0, Option.bind_some, c_slot h]
  rcases slI_cases (P := P) (v := v) hP with e | ⟨s, hs, e⟩
  · rw [e, if_pos rfl, if_pos (by decide)]
    exact ⟨_, _, _, rfl, rfl, FgC.refl c, hg, FgM.refl _⟩
  · have hs := hs.lt hP
    have hl := (low_ok (P := P) (K := K) hs).1
    rw [e, if_neg (n_m1 (by omega)), if_neg (n_neg (by omega))]
    obtain ⟨c', e1, e2, e3, e4⟩ := c_graphed h hg
    obtain ⟨m', f1, f2, f3, f4⟩ := m_layReach h.m0
    rw [e1, Option.bind_some, f1, Option.bind_some, m_lowest f4 hs]
    dsimp only
    rw [c_lowest e2 hs, Option.bind_some, Option.bind_some, Option.bind_some, m_locOf (by omega)]
    generalize f_X9_locationOf (nI (low P K s)) = y
    exact ⟨y, c', m', rfl, rfl, e4, e2.gc e3, f2⟩
/-- a component's lowest slot -/
noncomputable def isl (P : PK) (K : CK) (s : Nat) : Bool := exi P s && decide (low P K s = s)
theorem c_isLowest (hG : GG P K c) (hs : s < 56) : f_X1_isLowest c 54 (nI s) = some (isl P K s) := by
  unfold f_X1_isLowest isl
  rw [holds_lb (by omega), hG.2.2 s (by omega), decide_eq_true hs, Bool.true_and]
  cases e : exi P s with
  | false => rfl
  | true =>
    rw [if_pos rfl, c_lowest hG hs, Option.bind_some]
    have := (low_ok (P := P) (K := K) hs).1
    by_cases q : low P K s = s
    · rw [q, if_pos rfl, decide_eq_true rfl]; rfl
    · rw [if_neg (k_no (by omega) (by omega) q), decide_eq_false q]; rfl
theorem c_countComp (hG : GG P K c) (hL : L < 3) : f_X1_countComponents c 54 (nI L) = some (nI (cn (fun s => isl P K s && decide (L ≤ cn (fun a => tg P K s a) 56)) 56)) := by
  unfold f_X1_countComponents
  refine wp_is ?_
  rw [wp_bind]
  refine wp_mono (lp_inv (fun i r => r.2 = nI i ∧ r.1 = nI (cn (fun s => isl P K s && decide (L ≤ cn (fun a => tg P K s a) 56)) i)) (fun r => r = nI (cn (fun s => isl P K s && decide (L ≤ cn (fun a => tg P K s a) 56)) 56)) 56 ?_ ?_ (by decide) ⟨rfl, rfl⟩) (fun r q => wp_some.mpr q)
  · rintro i ⟨x, a⟩ hi ⟨h1, h2⟩
    dsimp only at h1 h2
    subst h1; subst h2
    unfold b_X1_countComponents_1
    dsimp only
    rw [if_pos (show nI i < (56 : Int32) from (n_lt (b := 56) (by omega) (by omega)).mpr hi), c_isLowest hG hi, Option.bind_some, cn_b]
    have h56 := cn_le (fun a => tg P K i a) 56
    have fin : ∀ b : Bool, b = (isl P K i && decide (L ≤ cn (fun a => tg P K i a) 56)) → wp (Option.bind (Option.bind (some b) (fun b5 => if b5 = true then some (nI (cn (fun s => isl P K s && decide (L ≤ cn (fun a => tg P K s a) 56)) i) + (1 : Int32)) else some (nI (cn (fun s => isl P K s && decide (L ≤ cn (fun a => tg P K s a) 56)) i)))) (fun s4 => some (Sum.inl (s4, nI i + 1)))) (lpS (fun r : Int32 × Int32 => r.2 = nI (i + 1) ∧ r.1 = nI (cn (fun s => isl P K s && decide (L ≤ cn (fun a => tg P K s a) 56)) i + (if (isl P K i && decide (L ≤ cn (fun a => tg P K i a) 56)) = true then 1 else 0))) (fun r : Int32 => r = nI (cn (fun s => isl P K s && decide (L ≤ cn (fun a => tg P K s a) 56)) 56))) := by
      intro b hb
      rw [← hb, Option.bind_some]
      cases b with
      | false => exact wp_some.mpr ⟨nI_1 i, rfl⟩
      | true => exact wp_some.mpr ⟨nI_1 i, nI_1 _⟩
    cases e : isl P K i with
    | false =>
      rw [if_neg (by decide)]
      rw [e] at fin
      exact fin false rfl
    | true =>
      rw [e] at fin
      rw [if_pos rfl]
      show wp (Option.bind (Option.bind (Option.bind (rdL zC c 57 (nI i)) _) _) _) _
      rw [rdL_C (show i < 56 from hi), Option.bind_some, bc64, comp_cn hG hi]
      by_cases q : L ≤ cn (fun a => tg P K i a) 56
      · rw [if_pos ((n_le (by omega) (by omega)).mpr q)]
        exact fin true (by rw [decide_eq_true q]; rfl)
      · rw [if_neg (fun z => q ((n_le (by omega) (by omega)).mp z))]
        exact fin false (by rw [decide_eq_false q]; rfl)
  · rintro ⟨x, a⟩ ⟨h1, h2⟩
    dsimp only at h1 h2
    subst h1; subst h2
    unfold b_X1_countComponents_1
    dsimp only
    rw [if_neg (show ¬ nI 56 < (56 : Int32) by decide), wp_some]
    rfl
theorem n_ifb (b : Bool) (n : Nat) : nI n + (if b = true then (1 : Int32) else 0) = nI (n + (if b = true then 1 else 0)) := nI_b b n
theorem some_if (b : Bool) : (if b = true then some (1 : Int32) else some 0) = some (if b = true then (1 : Int32) else 0) := by cases b <;> rfl
theorem q_cyclicComponentCount (h : Base p P K c m) (hg : GC P K c) : QG P K c m (f_X9_cyclicComponentCount c 0) (f_X10_cyclicComponentCount m 0) := by
  obtain ⟨c', e1, e2, e3, e4⟩ := c_graphed h hg
  obtain ⟨m', f1, f2, f3, f4⟩ := m_layReach h.m0
  refine ⟨nI (cn (fun s => isl P K s && decide (2 ≤ cn (fun a => tg P K s a) 56)) 56), c', m', ?_, ?_, e4, e2.gc e3, f2⟩
  · unfold f_X9_cyclicComponentCount
    rw [e1, Option.bind_some]
    show Option.bind (f_X1_countComponents c' 54 (nI 2)) _ = _
    rw [c_countComp e2 (by omega)]; rfl
  · unfold f_X10_cyclicComponentCount
    rw [Option.bind_some, f1, Option.bind_some]
    refine wp_is ?_
    rw [wp_bind]
    refine wp_mono (lp_inv (fun i r => r.2 = nI i ∧ r.1 = nI (cn (fun s => isl P K s && decide (2 ≤ cn (fun a => tg P K s a) 56)) i)) (fun r => r = nI (cn (fun s => isl P K s && decide (2 ≤ cn (fun a => tg P K s a) 56)) 56)) 56 ?_ ?_ (by decide) ⟨rfl, rfl⟩) (fun r q => wp_some.mpr (by rw [q]))
    · rintro i ⟨x, a⟩ hi ⟨h1, h2⟩
      dsimp only at h1 h2
      subst h1; subst h2
      have hl := (low_ok (P := P) (K := K) hi).1
      have h56 := cn_le (fun a => tg P K i a) 56
      unfold b_X10_cyclicComponentCount_1
      dsimp only
      rw [if_pos (show nI i < (56 : Int32) from (n_lt (b := 56) (by omega) (by omega)).mpr hi), m_exists (h.m0.keepGM f2) hi, Option.bind_some, m_lowest f4 hi, m_sizeOf f4 hi]
      have hb : (if exi P i = true then Option.bind (some (nI (low P K i))) fun x12 => if x12 = nI i then Option.bind (some (nI (cn (fun a => tg P K i a) 56))) fun x14 => if (1 : Int32) < x14 then some true else some false else some false else some false) = some (isl P K i && decide (2 ≤ cn (fun a => tg P K i a) 56)) := by
        unfold isl
        cases exi P i with
        | false => rfl
        | true =>
          rw [if_pos rfl, Option.bind_some, Option.bind_some]
          by_cases q : low P K i = i
          · rw [q, if_pos rfl, decide_eq_true rfl]
            by_cases q2 : 2 ≤ cn (fun a => tg P K i a) 56
            · rw [if_pos (show (1 : Int32) < nI (cn (fun a => tg P K i a) 56) from (n_lt (a := 1) (by omega) (by omega)).mpr (by omega)), decide_eq_true q2]; rfl
            · rw [if_neg (show ¬ (1 : Int32) < nI (cn (fun a => tg P K i a) 56) from fun z => q2 (by have := (n_lt (a := 1) (by omega) (by omega)).mp z; omega)), decide_eq_false q2]; rfl
          · rw [if_neg (k_no (by omega) (by omega) q), decide_eq_false q]; rfl
      rw [hb, Option.bind_some, some_if, Option.bind_some, nI_b, wp_some]
      exact ⟨nI_1 i, rfl⟩
    · rintro ⟨x, a⟩ ⟨h1, h2⟩
      dsimp only at h1 h2
      subst h1; subst h2
      unfold b_X10_cyclicComponentCount_1
      dsimp only
      rw [if_neg (show ¬ nI 56 < (56 : Int32) by decide), wp_some]
      rfl
theorem cn_pos {q : Nat → Bool} {n : Nat} (h : s < n) (hq : q s = true) : 1 ≤ cn q n := by
  rcases Nat.lt_or_ge (cn q n) 1 with z | z
  · have := cn_exb.mp (show cn q n = 0 by omega)
    rw [exb_iff.mpr ⟨s, h, hq⟩] at this; cases this
  · exact z
theorem q_condensedNodeCount (h : Base p P K c m) (hg : GC P K c) : QG P K c m (f_X9_condensedNodeCount c 0) (f_X10_condensedNodeCount m 0) := by
  obtain ⟨c', e1, e2, e3, e4⟩ := c_graphed h hg
  obtain ⟨m', f1, f2, f3, f4⟩ := m_layReach h.m0
  refine ⟨nI (cn (isl P K) 56), c', m', ?_, ?_, e4, e2.gc e3, f2⟩
  · unfold f_X9_condensedNodeCount
    rw [e1, Option.bind_some]
    show Option.bind (f_X1_countComponents c' 54 (nI 1)) _ = _
    rw [c_countComp e2 (by omega), cn_cong (q := isl P K) fun i hi => by
      rw [decide_eq_true (cn_pos (q := fun a => tg P K i a) hi (tg_refl i)), Bool.and_true]]
    rfl
  · unfold f_X10_condensedNodeCount
    rw [Option.bind_some, f1, Option.bind_some]
    refine wp_is ?_
    rw [wp_bind]
    refine wp_mono (lp_inv (fun i r => r.2 = nI i ∧ r.1 = nI (cn (isl P K) i)) (fun r => r = nI (cn (isl P K) 56)) 56 ?_ ?_ (by decide) ⟨rfl, rfl⟩) (fun r q => wp_some.mpr (by rw [q]))
    · rintro i ⟨x, a⟩ hi ⟨h1, h2⟩
      dsimp only at h1 h2
      subst h1; subst h2
      have hl := (low_ok (P := P) (K := K) hi).1
      unfold b_X10_condensedNodeCount_1
      dsimp only
      rw [if_pos (show nI i < (56 : Int32) from (n_lt (b := 56) (by omega) (by omega)).mpr hi), m_exists (h.m0.keepGM f2) hi, Option.bind_some, m_lowest f4 hi]
      have hb : (if exi P i = true then Option.bind (some (nI (low P K i))) fun x12 => if x12 = nI i then some true else some false else some false) = some (isl P K i) := by
        unfold isl
        cases exi P i with
        | false => rfl
        | true =>
          rw [if_pos rfl, Option.bind_some]
          by_cases q : low P K i = i
          · rw [q, if_pos rfl, decide_eq_true rfl]; rfl
          · rw [if_neg (k_no (by omega) (by omega) q), decide_eq_false q]; rfl
      rw [hb, Option.bind_some, some_if, Option.bind_some, nI_b, wp_some]
      exact ⟨nI_1 i, rfl⟩
    · rintro ⟨x, a⟩ ⟨h1, h2⟩
      dsimp only at h1 h2
      subst h1; subst h2
      unfold b_X10_condensedNodeCount_1
      dsimp only
      rw [if_neg (show ¬ nI 56 < (56 : Int32) by decide), wp_some]
      rfl
end GK
