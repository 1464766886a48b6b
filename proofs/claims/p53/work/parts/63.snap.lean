/-! Snapshots: copying a list of constraints; saveSnapshot. -/
def SnapR (P : PK) (c m : Wd) : Prop := ∀ s, s < 2 → (bt (c.1 0 5) s = true ∧ m.1 14 s = bI true ∧ ∃ Ks, CWF P Ks ∧ RLc c (35 + 5 * s) Ks ∧ RLb (m.1 13) (122 * s) Ks) ∨ (bt (c.1 0 5) s = false ∧ m.1 14 s = bI false)
section SN
variable {p : Nat} {P : PK} {K K' : CK} {c m w : Wd} {v y : Int32} {i e d S L a b s : Nat}
theorem cp30 (ha : zln zC a = 30) (hb : zln zC b = 30) : cpI zC w a b (30 : Int32) = some (wcI w a b 30) := by
  unfold cpI
  rw [ha, hb, if_neg (by decide)]
  rfl
theorem wc_at {n x : Nat} (hx : x < n) : (wcI w a b n).1 b x = w.1 a x := by
  show (if b = b then va_cpy (w.1 a) (w.1 b) 0 0 n else w.1 b) x = _
  rw [if_pos rfl, pk_cpy_in (by omega) (by omega), Nat.sub_zero, Nat.zero_add]
theorem wc_o {n q : Nat} (hq : q ≠ b) : (wcI w a b n).1 q = w.1 q := if_neg hq
theorem c_copyFrom (hS : LC S) (hL : LC L) (hd : L + 4 < S ∨ S + 4 < L) (h : RLc c L K) (hn : nc K ≤ 30) : ∃ c', f_X0_copyFrom c S L = some c' ∧ RLc c' S K ∧ (∀ q, ¬ (S ≤ q ∧ q ≤ S + 4) → c'.1 q = c.1 q) ∧ c'.2 = c.2 := by
  unfold f_X0_copyFrom
  rw [zl0 hL, zl0 hS, zl1 hL, zl1 hS, zl2 hL, zl2 hS, zl3 hL, zl3 hS, cp30 (zm1 hL) (zm1 hS), Option.bind_some, cp30 (zm2 hL) (zm2 hS), Option.bind_some, cp30 (zm3 hL) (zm3 hS), Option.bind_some, cp30 (zm4 hL) (zm4 hS), Option.bind_some, Option.bind_some, Option.bind_some]
  generalize h1 : wcI c (L + 1) (S + 1) 30 = c1
  generalize h2 : wcI c1 (L + 2) (S + 2) 30 = c2
  generalize h3 : wcI c2 (L + 3) (S + 3) 30 = c3
  generalize h4 : wcI c3 (L + 4) (S + 4) 30 = c4
  have o1 : ∀ q, q ≠ S + 1 → c1.1 q = c.1 q := fun q hq => by rw [← h1]; exact wc_o hq
  have o2 : ∀ q, q ≠ S + 2 → c2.1 q = c1.1 q := fun q hq => by rw [← h2]; exact wc_o hq
  have o3 : ∀ q, q ≠ S + 3 → c3.1 q = c2.1 q := fun q hq => by rw [← h3]; exact wc_o hq
  have o4 : ∀ q, q ≠ S + 4 → c4.1 q = c3.1 q := fun q hq => by rw [← h4]; exact wc_o hq
  have out : ∀ q, ¬ (S < q ∧ q ≤ S + 4) → c4.1 q = c.1 q := fun q hq => by rw [o4 q (by omega), o3 q (by omega), o2 q (by omega), o1 q (by omega)]
  refine ⟨_, rfl, ⟨?_, ?_, fun x hx => ?_⟩, fun q hq => by rw [wsI_o _ _ _ (by omega), wsI_o _ _ _ (by omega), out q (by omega)], ?_⟩
  · rw [wsI_s, upd_o (by omega), wsI_s, upd_s, out L (by omega)]; exact h.1
  · rw [wsI_s, upd_s, wsI_o _ _ _ (by omega), out L (by omega)]; exact h.2.1
  · have e1 : c4.1 (S + 1) x = c.1 (L + 1) x := by rw [o4 _ (by omega), o3 _ (by omega), o2 _ (by omega), ← h1]; exact wc_at (by omega)
    have e2 : c4.1 (S + 2) x = c.1 (L + 2) x := by
      rw [o4 _ (by omega), o3 _ (by omega), ← h2, wc_at (by omega), o1 _ (by omega)]
    have e3 : c4.1 (S + 3) x = c.1 (L + 3) x := by
      rw [o4 _ (by omega), ← h3, wc_at (by omega), o2 _ (by omega), o1 _ (by omega)]
    have e4 : c4.1 (S + 4) x = c.1 (L + 4) x := by
      rw [← h4, wc_at (by omega), o3 _ (by omega), o2 _ (by omega), o1 _ (by omega)]
    rw [wsI_o _ _ _ (by omega), wsI_o _ _ _ (by omega), wsI_o _ _ _ (by omega), wsI_o _ _ _ (by omega), wsI_o _ _ _ (by omega), wsI_o _ _ _ (by omega), wsI_o _ _ _ (by omega), wsI_o _ _ _ (by omega), e1, e2, e3, e4]
    exact h.2.2 x hx
  · show c4.2 = _
    rw [← h4, ← h3, ← h2, ← h1]; rfl
theorem m_saveLoop (hs : s < 2) : wp (lp (b_X10_saveSnapshot_1 0 (nI s)) NF ((0 : Int32), m)) (fun r => (∀ q, q ≠ 13 → r.1 q = m.1 q) ∧ r.2 = m.2 ∧ (∀ x, x < 122 → r.1 13 (122 * s + x) = m.1 10 x) ∧ ∀ x, ¬ (122 * s ≤ x ∧ x < 122 * s + 122) → r.1 13 x = m.1 13 x) := by
  refine lp_inv (fun i t => t.1 = nI i ∧ (∀ q, q ≠ 13 → t.2.1 q = m.1 q) ∧ t.2.2 = m.2 ∧ (∀ x, x < i → t.2.1 13 (122 * s + x) = m.1 10 x) ∧ ∀ x, ¬ (122 * s ≤ x ∧ x < 122 * s + 122) → t.2.1 13 x = m.1 13 x) _ 122 ?_ ?_ (by decide) ⟨rfl, fun _ _ => rfl, rfl, fun x h => by omega, fun _ _ => rfl⟩
  · rintro i ⟨si, w⟩ hi ⟨rfl, a, b, c, e⟩
    dsimp only at a b c e
    unfold b_X10_saveSnapshot_1
    dsimp only
    rw [if_pos (show nI i < (122 : Int32) from (n_lt (b := 122) (by omega) (by omega)).mpr hi)]
    show wp (Option.bind (rdI zM w 10 (nI i)) fun x6 => Option.bind (wrI zM w 13 (nI 122 * nI s + nI i) x6) _) _
    rw [pk_mul, nI_add, rdI_M (show i < 122 from hi), Option.bind_some, wrI_M (show 122 * s + i < 244 by omega), Option.bind_some, wp_some]
    refine ⟨nI_1 i, fun q hq => ?_, b, fun x hx => ?_, fun x hx => ?_⟩
    · dsimp only
      rw [wsI_o _ _ _ hq]; exact a q hq
    · dsimp only
      rw [wsI_s]
      by_cases q : x = i
      · subst q; rw [upd_s, a 10 (by omega)]
      · rw [upd_o (by omega)]; exact c x (by omega)
    · dsimp only
      rw [wsI_s, upd_o (by omega)]; exact e x hx
  · rintro ⟨si, w⟩ ⟨rfl, a, b, c, e⟩
    dsimp only at a b c e
    unfold b_X10_saveSnapshot_1
    dsimp only
    rw [if_neg (show ¬ nI 122 < (122 : Int32) by decide), wp_some]
    exact ⟨a, b, c, e⟩
theorem within01 : f_X10_within v.toInt64 (0 : Int64) (1 : Int64) = inR v 2 := by
  have e : (nI 2 - 1).toInt64 = (1 : Int64) := by decide
  rw [← within_R (n := 2) (by omega), e]
theorem snap_ref (hs : s < 2) : rdQ zC (zrf zC 0 4) (nI s) 0 = some (35 + 5 * s) := by
  have : s = 0 ∨ s = 1 := by omega
  rcases this with rfl | rfl <;> decide +kernel
theorem LCs (hs : s < 2) : LC (35 + 5 * s) := by
  have : s = 0 ∨ s = 1 := by omega
  rcases this with rfl | rfl
  · exact Or.inr (Or.inr (Or.inl rfl))
  · exact Or.inr (Or.inr (Or.inr rfl))
theorem slot_in : (v < (0 : Int32) ∨ (2 : Int32) ≤ v) ↔ inR v 2 = false := by
  unfold inR
  rw [decide_eq_false_iff_not]
  constructor
  · rintro (h | h) ⟨h1, h2⟩
    · have a := Int32.lt_iff_toInt_lt.mp h
      have b := Int32.le_iff_toInt_le.mp h1
      omega
    · have a := Int32.lt_iff_toInt_lt.mp h2
      have b := Int32.le_iff_toInt_le.mp h
      have e : (2 : Int32).toInt = (nI 2).toInt := rfl
      omega
  · intro h
    by_cases h1 : v < 0
    · exact Or.inl h1
    · exact Or.inr (i_lt fun h2 => h ⟨i_lt h1, h2⟩)
end SN
