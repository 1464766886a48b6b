-- deps: b6
/-! Components, distances: the law's search agrees. -/
def bN : Nat → Int32
  | 0 => -1
  | k + 1 => nI k
theorem bN_dec : ∀ k, bN (k + 1) + (-1 : Int32) = bN k := by
  intro k
  cases k with
  | zero => decide
  | succ k =>
    show nI (k + 1) + (-1 : Int32) = nI k
    rw [← nI_1 k, Int32.add_assoc]
    exact Int32.add_zero _
theorem cn_up {q : Nat → Bool} {a b : Nat} (h : a ≤ b) : cn q a ≤ cn q b := by
  induction b with
  | zero => rw [show a = 0 by omega]; exact Nat.le_refl _
  | succ b ih =>
    by_cases z : a = b + 1
    · rw [z]; exact Nat.le_refl _
    · have := ih (by omega)
      rw [cn]; omega
section CM
variable {p : Nat} {P : PK} {K : CK} {c m w : Wd} {fa f : Nat → Int32} {a b k n : Nat} {rq : Nat → Nat → Int32}
/-- one component, by indices -/
noncomputable def TI (P : PK) (K : CK) (a b : Nat) : Bool := tg P K (sI P a) (sI P b)
theorem TI_di (hP : PWF P) (hK : CWF P K) (ha : a < nL P) (hb : b < nL P) : TI P K a b = decide (di (EI P K) (nL P) a b < 1000 ∧ di (EI P K) (nL P) b a < 1000) := di_tg hP hK ha hb
theorem tg_exi (hP : PWF P) (hK : CWF P K) {s t : Nat} (hs : exi P s = true) (h : tg P K s t = true) : exi P t = true := by
  unfold tg at h
  rw [Bool.and_eq_true] at h
  rcases rch_exi hP hK 56 s t h.1 with e | e
  · rw [← e]; exact hs
  · exact e.2
theorem TI_cn (hP : PWF P) (hK : CWF P K) (ha : a < nL P) : cn (fun y => tg P K (sI P a) y) 56 = cn (TI P K a) (nL P) :=
  idx_cn (nL P) 56 (sI P) _ (fun i j h1 h2 => sI_mono hP h1 h2) (fun i hi => sI_lt hP hi) (fun s _ h => sI_surj hP (tg_exi hP hK (sI_exi hP ha) h))
/-- what the search from a comes to -/
def Cmp (P : PK) (K : CK) (a r l : Nat) : Prop := l ≤ a ∧ TI P K a l = true ∧ (l = a ∨ r ≤ l) ∧ ∀ b, b < nL P → r ≤ b → TI P K a b = true → l ≤ b
theorem low_of (hP : PWF P) (hK : CWF P K) (ha : a < nL P) {l : Nat} (h : Cmp P K a 0 l) : low P K (sI P a) = sI P l := by
  obtain ⟨h1, h2, h3, h4⟩ := h
  refine fstb_uniq (sI_lt hP (by omega)) h2 fun j hj => ?_
  cases e : tg P K (sI P a) j with
  | false => rfl
  | true =>
    obtain ⟨b, hb, rfl⟩ := sI_surj hP (tg_exi hP hK (sI_exi hP ha) e)
    have := h4 b hb (Nat.zero_le _) e
    rcases Nat.lt_or_ge l b with z | z
    · have := sI_mono hP z hb; omega
    · have : l = b := by omega
      subst this; omega
set_option maxRecDepth 16000 in
theorem comp_step (h : WG p P K m w) (hfa : ∀ i, i < nL P → fa i = nI (lcn (sI P i))) (hrq : ∀ x y, x < nL P → y < nL P → rq x y = nI (di (EI P K) (nL P) x y)) (ha : a < nL P) (hk : k < nL P) {l : Nat} (hl : Cmp P K a (k + 1) l) {y z : Int32} {w0 : Wd} :
    wp (b_L_areEdges_252 fa (nL P) (y, z, nI a, w0) rq (nI (cn (TI P K a) (nL P) - cn (TI P K a) (k + 1)), nI l, bN (k + 1), w)) (lpS (fun st => st.1 = nI (cn (TI P K a) (nL P) - cn (TI P K a) k) ∧ (∃ l, st.2.1 = nI l ∧ Cmp P K a k l) ∧ st.2.2.1 = bN k ∧ WG p P K m st.2.2.2) (fun _ => False)) := by
  obtain ⟨hP, hK⟩ := h.pk
  have hle := nL_le hP
  have hsa := sI_lt hP ha
  have hsk := sI_lt hP hk
  obtain ⟨w', e1, e2⟩ := e_dist h hsa (sI_exi hP ha) hsk (sI_exi hP hk)
  rw [di_dist hP hK ha hk] at e1
  have d1 := di_le (E := EI P K) (k := nL P) (a := a) (b := k)
  have d2 := di_le (E := EI P K) (k := nL P) (a := k) (b := a)
  have hT := TI_di (a := a) (b := k) hP hK ha hk
  have hcn : cn (TI P K a) (k + 1) = cn (TI P K a) k + (if TI P K a k = true then 1 else 0) := rfl
  have hup := cn_up (q := TI P K a) (show k + 1 ≤ nL P from hk)
  obtain ⟨l1, l2, l3, l4⟩ := hl
  have same : TI P K a k = false → wp (k_L_areEdges_344 (nI (cn (TI P K a) (nL P) - cn (TI P K a) (k + 1)), nI l, bN (k + 1), w) (nI (cn (TI P K a) (nL P) - cn (TI P K a) (k + 1))) (nI l) w') (lpS (fun st => st.1 = nI (cn (TI P K a) (nL P) - cn (TI P K a) k) ∧ (∃ l, st.2.1 = nI l ∧ Cmp P K a k l) ∧ st.2.2.1 = bN k ∧ WG p P K m st.2.2.2) (fun _ => False)) := fun hz => by
    unfold k_L_areEdges_344
    rw [wp_some]
    refine ⟨?_, ⟨l, rfl, l1, l2, l3.imp id (fun _ => by omega), fun b hb hkb hTb => ?_⟩, bN_dec k, e2⟩
    · dsimp only
      rw [hcn, if_neg (show ¬ TI P K a k = true by rw [hz]; decide)]; rfl
    · by_cases e : b = k
      · rw [e, hz] at hTb; cases hTb
      · exact l4 b hb (by omega) hTb
  have tail : wp (k_L_areEdges_301 (nL P) (y, z, nI a, w0) rq (nI (cn (TI P K a) (nL P) - cn (TI P K a) (k + 1)), nI l, bN (k + 1), w) w') (lpS (fun st => st.1 = nI (cn (TI P K a) (nL P) - cn (TI P K a) k) ∧ (∃ l, st.2.1 = nI l ∧ Cmp P K a k l) ∧ st.2.2.1 = bN k ∧ WG p P K m st.2.2.2) (fun _ => False)) := by
    unfold k_L_areEdges_301
    dsimp only
    rw [rdI_n (g := fun q : Nat => q) hP ha, Option.bind_some, show bN (k + 1) = nI k from rfl, rdI_n hP hk, Option.bind_some, hrq a k ha hk]
    by_cases c1 : 1000 ≤ di (EI P K) (nL P) a k
    · rw [if_pos (show (1000 : Int32) ≤ nI (di (EI P K) (nL P) a k) from (n_le (a := 1000) (by omega) (by omega)).mpr c1)]
      exact same (by rw [hT]; exact decide_eq_false (by omega))
    · rw [if_neg (show ¬ (1000 : Int32) ≤ nI (di (EI P K) (nL P) a k) from fun z => c1 ((n_le (a := 1000) (by omega) (by omega)).mp z)), rdI_n (g := fun q : Nat => q) hP hk, Option.bind_some, rdI_n hP ha, Option.bind_some, hrq k a hk ha]
      by_cases c2 : di (EI P K) (nL P) k a < 1000
      · have hTt : TI P K a k = true := by rw [hT]; exact decide_eq_true ⟨by omega, c2⟩
        rw [if_pos (show nI (di (EI P K) (nL P) k a) < (1000 : Int32) from (n_lt (b := 1000) (by omega) (by omega)).mpr c2)]
        unfold k_L_areEdges_344
        rw [wp_some]
        refine ⟨?_, ⟨if k < l then k else l, ?_, ?_⟩, bN_dec k, e2⟩
        · dsimp only
          rw [nI_1, hcn, if_pos hTt]
          congr 1
          rw [hcn, if_pos hTt] at hup
          omega
        · dsimp only
          by_cases c3 : k < l
          · rw [if_pos ((n_lt (by omega) (by omega)).mpr c3), if_pos c3]
          · rw [if_neg (fun z => c3 ((n_lt (by omega) (by omega)).mp z)), if_neg c3]
        · by_cases c3 : k < l
          · rw [if_pos c3]
            exact ⟨by omega, hTt, Or.inr (Nat.le_refl _), fun b _ hb _ => hb⟩
          · rw [if_neg c3]
            refine ⟨l1, l2, l3.imp id (fun _ => by omega), fun b hb hkb hTb => ?_⟩
            by_cases e : b = k
            · omega
            · exact l4 b hb (by omega) hTb
      · rw [if_neg (show ¬ nI (di (EI P K) (nL P) k a) < (1000 : Int32) from fun z => c2 ((n_lt (b := 1000) (by omega) (by omega)).mp z))]
        exact same (by rw [hT]; exact decide_eq_false (fun z => c2 z.2))
  unfold b_L_areEdges_252
  dsimp only
  rw [if_neg (show ¬ bN (k + 1) < 0 from n_neg (by omega)), rdI_n hP ha, Option.bind_some, show bN (k + 1) = nI k from rfl, rdI_n hP hk, Option.bind_some, hfa a ha, hfa k hk, e1, Option.bind_some, rdI_n (g := fun q : Nat => q) hP ha, Option.bind_some, rdI_n hP hk, Option.bind_some, hrq a k ha hk]
  by_cases c1 : di (EI P K) (nL P) a k < 1000
  · rw [if_pos c1, if_pos (show nI (di (EI P K) (nL P) a k) < (1000 : Int32) from (n_lt (b := 1000) (by omega) (by omega)).mpr c1), Option.bind_some, rdI_n hP hk, Option.bind_some, hrq a k ha hk]
    dsimp only
    rw [if_pos rfl]
    exact tail
  · rw [if_neg c1, if_neg (show ¬ nI (di (EI P K) (nL P) a k) < (1000 : Int32) from fun z => c1 ((n_lt (b := 1000) (by omega) (by omega)).mp z))]
    dsimp only
    rw [if_pos rfl]
    exact tail
theorem isl_of (hP : PWF P) (hK : CWF P K) (ha : a < nL P) {l : Nat} (h : Cmp P K a 0 l) : isl P K (sI P a) = decide (l = a) := by
  unfold isl
  rw [sI_exi hP ha, low_of hP hK ha h, Bool.true_and]
  exact decide_eq_decide.mpr ⟨fun z => sI_inj hP (by have := h.1; omega) ha z, fun z => by rw [z]⟩
set_option maxRecDepth 16000 in
theorem comp_row (h : WG p P K m w) (hfa : ∀ i, i < nL P → fa i = nI (lcn (sI P i))) (hrq : ∀ x y, x < nL P → y < nL P → rq x y = nI (di (EI P K) (nL P) x y)) (ha : a < nL P) {n0 c0 : Nat} (hn0 : n0 ≤ 100) (hc0 : c0 ≤ 100) :
    wp (b_L_areEdges_234 (nL P) fa rq (nI n0, nI c0, nI a, w)) (lpS (fun st => st.1 = nI (n0 + (if isl P K (sI P a) = true then 1 else 0)) ∧ st.2.1 = nI (c0 + (if (isl P K (sI P a) && decide (2 ≤ cn (fun y => tg P K (sI P a) y) 56)) = true then 1 else 0)) ∧ st.2.2.1 = nI (a + 1) ∧ WG p P K m st.2.2.2) (fun _ => False)) := by
  obtain ⟨hP, hK⟩ := h.pk
  have hle := nL_le hP
  have hsa := sI_lt hP ha
  have key : wp (lp (b_L_areEdges_252 fa (nL P) (nI n0, nI c0, nI a, w) rq) NF ((0 : Int32), nI a, ((nI (nL P)) - (1 : Int32)), w)) (fun q => ∃ l w', q = .inl (nI (cn (TI P K a) (nL P)), nI l, w') ∧ Cmp P K a 0 l ∧ WG p P K m w') := by
    refine lp_inv (fun j st => st.1 = nI (cn (TI P K a) (nL P) - cn (TI P K a) (nL P - j)) ∧ (∃ l, st.2.1 = nI l ∧ Cmp P K a (nL P - j) l) ∧ st.2.2.1 = bN (nL P - j) ∧ WG p P K m st.2.2.2) _ (nL P) ?_ ?_ (by have : NF = 65536 := rfl; omega) ⟨?_, ⟨a, rfl, Nat.le_refl _, tg_refl _, Or.inl rfl, fun b hb h1 _ => by omega⟩, ?_, h⟩
    · rintro j ⟨s1, s2, s3, w1⟩ hj ⟨q1, ⟨l, q2, q3⟩, q4, q5⟩
      dsimp only at q1 q2 q4 q5
      subst q1 q2 q4
      obtain ⟨k, hk⟩ : ∃ k, nL P - j = k + 1 := ⟨nL P - j - 1, by omega⟩
      rw [hk] at q3 ⊢
      obtain ⟨bb, z1, z2⟩ := comp_step q5 hfa hrq ha (by omega) q3 (y := nI n0) (z := nI c0) (w0 := w)
      refine ⟨bb, z1, ?_⟩
      have hk2 : nL P - (j + 1) = k := by omega
      cases bb with
      | inl s' =>
        show _ ∧ _
        rw [hk2]; exact z2
      | inr r => exact z2.elim
    · rintro ⟨s1, s2, s3, w1⟩ ⟨q1, ⟨l, q2, q3⟩, q4, q5⟩
      dsimp only at q1 q2 q4 q5
      rw [Nat.sub_self] at q1 q3 q4
      subst q1 q2 q4
      unfold b_L_areEdges_252
      dsimp only
      rw [if_pos (show bN 0 < 0 by decide), wp_some]
      exact ⟨l, w1, rfl, q3, q5⟩
    · rw [Nat.sub_zero, Nat.sub_self]; rfl
    · rw [Nat.sub_zero]
      obtain ⟨k, hk⟩ : ∃ k, nL P = k + 1 := ⟨nL P - 1, by omega⟩
      rw [hk]
      exact pk_sub (b := 1) (by omega)
  obtain ⟨q, z1, l, w1, rfl, hl, hw1⟩ := key
  have hisl := isl_of hP hK ha hl
  have hll : l < nL P := by have := hl.1; omega
  obtain ⟨w2, g1, g2⟩ := e_size hw1 hsa (sI_exi hP ha)
  obtain ⟨w3, g3, g4⟩ := e_rep g2 hsa (sI_exi hP ha)
  rw [TI_cn hP hK ha] at g1
  rw [low_of hP hK ha hl] at g3
  have hsz : cn (TI P K a) (nL P) ≤ nL P := cn_le _ _
  unfold b_L_areEdges_234
  dsimp only
  rw [if_neg (fun z => by have := (n_le (by omega) (by omega)).mp z; omega), z1, Option.bind_some]
  dsimp only
  rw [rdI_n hP ha, Option.bind_some, hfa a ha, g1, Option.bind_some]
  dsimp only
  rw [if_neg (show ¬ ¬ nI (cn (TI P K a) (nL P)) = nI (cn (TI P K a) (nL P)) from fun z => z rfl), Option.bind_some, g3, Option.bind_some, rdI_n hP hll, Option.bind_some, hfa l hll]
  dsimp only
  rw [if_pos rfl, hisl, TI_cn hP hK ha]
  by_cases c1 : l = a
  · rw [if_neg (show ¬ ¬ nI l = nI a from fun z => z (by rw [c1])), if_neg (show ¬ ¬ nI l = nI a from fun z => z (by rw [c1])), decide_eq_true c1, if_pos (show (true : Bool) = true from rfl), Bool.true_and]
    by_cases c2 : cn (TI P K a) (nL P) ≤ 1
    · rw [if_pos (show nI (cn (TI P K a) (nL P)) ≤ (1 : Int32) from (n_le (b := 1) (by omega) (by omega)).mpr c2), wp_some, if_neg (show ¬ decide (2 ≤ cn (TI P K a) (nL P)) = true from fun z => by have := of_decide_eq_true z; omega)]
      exact ⟨nI_1 n0, nI_add c0 0, nI_1 a, g4⟩
    · rw [if_neg (show ¬ nI (cn (TI P K a) (nL P)) ≤ (1 : Int32) from fun z => c2 ((n_le (b := 1) (by omega) (by omega)).mp z)), wp_some, if_pos (show decide (2 ≤ cn (TI P K a) (nL P)) = true from decide_eq_true (by omega))]
      exact ⟨nI_1 n0, nI_1 c0, nI_1 a, g4⟩
  · have c1' : ¬ nI l = nI a := fun z => c1 ((n_eq (by omega) (by omega)).mp z)
    rw [if_pos c1', if_pos c1', decide_eq_false c1, if_neg (show ¬ (false : Bool) = true by decide), Bool.false_and, if_neg (show ¬ (false : Bool) = true by decide), wp_some]
    exact ⟨nI_add n0 0, nI_add c0 0, nI_1 a, g4⟩
theorem comps_ok (h : WG p P K m w) (hfa : ∀ i, i < nL P → fa i = nI (lcn (sI P i))) (hrq : ∀ x y, x < nL P → y < nL P → rq x y = nI (di (EI P K) (nL P) x y)) : ∃ w', lp (b_L_areEdges_234 (nL P) fa rq) NF ((0 : Int32), (0 : Int32), (0 : Int32), w) = some (.inl (nI (cn (isl P K) 56), nI (cn (fun s => isl P K s && decide (2 ≤ cn (fun a => tg P K s a) 56)) 56), w')) ∧ WG p P K m w' := by
  obtain ⟨hP, hK⟩ := h.pk
  have hle := nL_le hP
  have r1 : cn (isl P K) 56 = cn (fun a => isl P K (sI P a)) (nL P) := idx_cn (nL P) 56 (sI P) _ (fun i j h1 h2 => sI_mono hP h1 h2) (fun i hi => sI_lt hP hi) (fun s _ h => by
    unfold isl at h
    rw [Bool.and_eq_true] at h
    exact sI_surj hP h.1)
  have r2 : cn (fun s => isl P K s && decide (2 ≤ cn (fun a => tg P K s a) 56)) 56 = cn (fun a => isl P K (sI P a) && decide (2 ≤ cn (fun y => tg P K (sI P a) y) 56)) (nL P) := idx_cn (nL P) 56 (sI P) _ (fun i j h1 h2 => sI_mono hP h1 h2) (fun i hi => sI_lt hP hi) (fun s _ h => by
    unfold isl at h
    rw [Bool.and_eq_true, Bool.and_eq_true] at h
    exact sI_surj hP h.1.1)
  have key : wp (lp (b_L_areEdges_234 (nL P) fa rq) NF ((0 : Int32), (0 : Int32), (0 : Int32), w)) (fun q => ∃ w', q = .inl (nI (cn (fun a => isl P K (sI P a)) (nL P)), nI (cn (fun a => isl P K (sI P a) && decide (2 ≤ cn (fun y => tg P K (sI P a) y) 56)) (nL P)), w') ∧ WG p P K m w') := by
    refine lp_inv (fun a st => st.1 = nI (cn (fun a => isl P K (sI P a)) a) ∧ st.2.1 = nI (cn (fun a => isl P K (sI P a) && decide (2 ≤ cn (fun y => tg P K (sI P a) y) 56)) a) ∧ st.2.2.1 = nI a ∧ WG p P K m st.2.2.2) _ (nL P) ?_ ?_ (by have : NF = 65536 := rfl; omega) ⟨rfl, rfl, rfl, h⟩
    · rintro a ⟨s1, s2, s3, w1⟩ ha ⟨q1, q2, q3, q4⟩
      dsimp only at q1 q2 q3 q4
      subst q1 q2 q3
      have b1 := cn_le (fun a => isl P K (sI P a)) a
      have b2 := cn_le (fun a => isl P K (sI P a) && decide (2 ≤ cn (fun y => tg P K (sI P a) y) 56)) a
      obtain ⟨bb, z1, z2⟩ := comp_row q4 hfa hrq ha (n0 := cn (fun a => isl P K (sI P a)) a) (c0 := cn (fun a => isl P K (sI P a) && decide (2 ≤ cn (fun y => tg P K (sI P a) y) 56)) a) (by omega) (by omega)
      refine ⟨bb, z1, ?_⟩
      cases bb with
      | inl s' => exact z2
      | inr r => exact z2.elim
    · rintro ⟨s1, s2, s3, w1⟩ ⟨q1, q2, q3, q4⟩
      dsimp only at q1 q2 q3 q4
      subst q1 q2 q3
      unfold b_L_areEdges_234
      dsimp only
      rw [if_pos ((n_le (by omega) (by omega)).mpr (Nat.le_refl _)), wp_some]
      exact ⟨w1, rfl, q4⟩
  obtain ⟨q, z1, w', rfl, z2⟩ := key
  exact ⟨w', by rw [z1, r1, r2], z2⟩
end CM
