/-! What class and reference share: the base relation; locations, objects, constraints of the calls. -/
def Base (p : Nat) (P : PK) (K : CK) (c m : Wd) : Prop := PC p ∧ c.2.2 0 1 = p ∧ RPc c p P ∧ RLc c (p + 9) K ∧ RPm m P ∧ RLm m K ∧ PWF P ∧ CWF P K ∧ SolC P K c ∧ SolM P K m
theorem SolM.keep {P : PK} {K : CK} {m m' : Wd} (h : SolM P K m) (h1 : m'.1 15 = m.1 15) (h2 : m'.1 17 = m.1 17) (h3 : m'.1 0 27 = m.1 0 27) : SolM P K m' := by
  unfold SolM at h ⊢
  rw [h1, h2, h3]
  exact h
/-- the reference with another word in a field of its own that only a call uses -/
theorem Base.mF {p : Nat} {P : PK} {K : CK} {c m : Wd} {j : Nat} {x : Int32} (h : Base p P K c m) (hj : j ≠ 27) : Base p P K c (wsI m 0 j x) := by
  obtain ⟨h1, h2, h3, h4, h5, h6, h7, h8, h9, h10⟩ := h
  refine ⟨h1, h2, h3, h4, h5.keep fun q q1 _ => by rw [wsI_o _ _ _ (by omega)], h6.keep (by rw [wsI_o _ _ _ (by omega)]), h7, h8, h9, h10.keep ?_ ?_ ?_⟩
  · rw [wsI_o _ _ _ (by omega)]
  · rw [wsI_o _ _ _ (by omega)]
  · rw [wsI_s, upd_o (fun z => hj z.symm)]
theorem PC.ct {p : Nat} (h : PC p) : zct zC p = 6 := by rcases h with rfl | rfl <;> rfl
/-- a word below a number -/
def inR (v : Int32) (n : Nat) : Bool := decide (0 ≤ v ∧ v < nI n)
theorem inR_t {v : Int32} {n : Nat} (hn : n < 65536) (h : inR v n = true) : ∃ j, j < n ∧ v = nI j := by
  unfold inR at h
  rw [decide_eq_true_eq] at h
  obtain ⟨j, hj, rfl⟩ := nI_of (x := v) (fun z => by
    have h1 := Int32.le_iff_toInt_le.mp h.1
    have h2 := Int32.lt_iff_toInt_lt.mp z
    omega)
  exact ⟨j, (nI_ltI hj (by omega)).mp h.2, rfl⟩
theorem inR_n {j n : Nat} (hj : j < 2 ^ 31) (hn : n < 65536) : inR (nI j) n = decide (j < n) := by
  unfold inR
  exact decide_eq_decide.mpr ⟨fun z => (nI_ltI hj (by omega)).mp z.2, fun z => ⟨nI_pos' hj, (nI_ltI hj (by omega)).mpr z⟩⟩
theorem within_R {v : Int32} {n : Nat} (hn : n < 65536) : f_X10_within v.toInt64 0 (nI n - 1).toInt64 = inR v n := by
  unfold f_X10_within inR
  have h1 : (nI n - 1).toInt = (n : Int) - 1 := pk_sub_toInt (a := n) (b := 1) (by omega) (by omega)
  refine decide_eq_decide.mpr ?_
  rw [Int64.le_iff_toInt_le, Int64.le_iff_toInt_le, Int32.toInt_toInt64, Int32.toInt_toInt64, h1, Int32.le_iff_toInt_le, Int32.lt_iff_toInt_lt, nI_toInt (by omega)]
  have h2 : (0 : Int64).toInt = 0 := by decide
  have h3 : (0 : Int32).toInt = 0 := by decide
  rw [h2, h3]
  omega
theorem i_le {a b : Int32} (h : ¬ a ≤ b) : b < a := by
  rw [Int32.le_iff_toInt_le] at h
  rw [Int32.lt_iff_toInt_lt]
  omega
theorem i_lt {a b : Int32} (h : ¬ a < b) : b ≤ a := by
  rw [Int32.lt_iff_toInt_lt] at h
  rw [Int32.le_iff_toInt_le]
  omega
theorem i_nn {v : Int32} (h : 0 ≤ v) : ∃ j : Nat, j < 2 ^ 31 ∧ v = nI j := nI_of (fun z => by
  have h1 := Int32.le_iff_toInt_le.mp h
  have h2 := Int32.lt_iff_toInt_lt.mp z
  omega)
theorem n_div {a : Nat} (ha : a < 2 ^ 31) : jdiv (nI a) 4 = nI (a / 4) := pk_div (d := 4) ha (by omega) (by omega)
theorem n_rem {a : Nat} (ha : a < 2 ^ 31) : jrem (nI a) 4 = nI (a % 4) := pk_rem (d := 4) ha (by omega) (by omega)
/-- the slot of a location, -1 for none -/
def slI (P : PK) (v : Int32) : Int32 := if (0 : Int32) ≤ v ∧ v < nI (nv P) then v else if v < (100 : Int32) ∨ (140 : Int32) ≤ v then -1 else if decide (jdiv (v - 100) 4 < nI (no P) ∧ jrem (v - 100) 4 < nI (nf P)) = true then f_X9_fieldSlot (jdiv (v - 100) 4) (jrem (v - 100) 4) else -1
section BR
variable {p : Nat} {P : PK} {K : CK} {c m : Wd} {v : Int32}
theorem Base.rp (h : Base p P K c m) : rdD zC c 0 1 6 = some p := by
  unfold rdD
  rw [h.2.1, if_pos h.1.ct]
theorem c_slot (h : Base p P K c m) : f_X6_slotAt c p v = slI P v := by
  obtain ⟨h1, h2, h3, h4, h5, h6, h7, h8, h9, h10⟩ := h
  unfold f_X6_slotAt slI
  rw [zp0 h1, zp1 h1, zp2 h1, h3.1, h3.2.1, h3.2.2.1]
theorem c_isObject (h : Base p P K c m) : f_X9_isObject c 0 v = some (inR v (no P)) := by
  unfold f_X9_isObject
  rw [h.rp, Option.bind_some, zp1 h.1, h.2.2.1.2.1]
  unfold inR
  by_cases h1 : (0 : Int32) ≤ v
  · rw [if_pos h1]
    by_cases h2 : v < nI (no P)
    · rw [if_pos h2, decide_eq_true ⟨h1, h2⟩]; rfl
    · rw [if_neg h2, decide_eq_false (fun z => h2 z.2)]; rfl
  · rw [if_neg h1, decide_eq_false (fun z => h1 z.1)]; rfl
theorem c_isConstraint (h : Base p P K c m) : f_X9_isConstraint c 0 v = some (inR v (nc K)) := by
  unfold f_X9_isConstraint
  rw [h.rp, Option.bind_some, zp6 h.1, h.2.2.2.1.1]
  unfold inR
  by_cases h1 : (0 : Int32) ≤ v
  · rw [if_pos h1]
    by_cases h2 : v < nI (nc K)
    · rw [if_pos h2, decide_eq_true ⟨h1, h2⟩]; rfl
    · rw [if_neg h2, decide_eq_false (fun z => h2 z.2)]; rfl
  · rw [if_neg h1, decide_eq_false (fun z => h1 z.1)]; rfl
theorem m_isObject (h : Base p P K c m) : f_X10_isObject m 0 v = some (inR v (no P)) := by
  have := h.2.2.2.2.2.2.1.2.1
  unfold f_X10_isObject
  rw [m_objects h.2.2.2.2.1, Option.bind_some, within_R (by omega)]
theorem m_isVariable (h : Base p P K c m) : f_X10_isVariable m 0 v = some (inR v (nv P)) := by
  have := h.2.2.2.2.2.2.1.1
  unfold f_X10_isVariable
  show Option.bind (rdI zM m 2 (nI 0)) _ = _
  rw [rdI_M (show 0 < 2 by omega), h.2.2.2.2.1.1, Option.bind_some, within_R (by omega)]
theorem m_isField (h : Base p P K c m) : f_X10_isField m 0 v = some (inR v (nf P)) := by
  have := h.2.2.2.2.2.2.1.2.2.1
  unfold f_X10_isField
  show Option.bind (rdI zM m 4 (nI 0)) _ = _
  rw [rdI_M (show 0 < 2 by omega), h.2.2.2.2.1.2.2.1, Option.bind_some, within_R (by omega)]
theorem m_isConstraint (h : Base p P K c m) : f_X10_isConstraint m 0 v = some (inR v (nc K)) := by
  have := h.2.2.2.2.2.2.2.1.1
  unfold f_X10_isConstraint
  rw [m_count h.2.2.2.2.2.1, Option.bind_some, within_R (by omega)]
/-- a slot that a location names -/
def SlOK (P : PK) (s : Nat) : Prop := s < nv P ∨ ∃ o f, o < no P ∧ f < nf P ∧ s = 16 + 4 * o + f
theorem SlOK.lt {s : Nat} (h : SlOK P s) (hP : PWF P) : s < 56 := by
  have := hP.1
  have := hP.2.1
  have := hP.2.2.1
  rcases h with h | ⟨o, f, h1, h2, rfl⟩ <;> omega
theorem slI_cases (hP : PWF P) : slI P v = -1 ∨ ∃ s, SlOK P s ∧ slI P v = nI s := by
  have := hP.1
  have := hP.2.1
  have := hP.2.2.1
  unfold slI
  by_cases h1 : (0 : Int32) ≤ v ∧ v < nI (nv P)
  · rw [if_pos h1]
    obtain ⟨j, hj, rfl⟩ := inR_t (v := v) (n := nv P) (by omega) (decide_eq_true h1)
    exact Or.inr ⟨j, Or.inl hj, rfl⟩
  · rw [if_neg h1]
    by_cases h2 : v < (100 : Int32) ∨ (140 : Int32) ≤ v
    · rw [if_pos h2]; exact Or.inl rfl
    · rw [if_neg h2]
      have h3 := i_lt (fun z => h2 (Or.inl z))
      have h4 := i_le (fun z => h2 (Or.inr z))
      obtain ⟨j, hj, rfl⟩ := i_nn (v := v) (by
        rw [Int32.le_iff_toInt_le] at h3 ⊢
        have e1 : (100 : Int32).toInt = 100 := by decide
        have e2 : (0 : Int32).toInt = 0 := by decide
        omega)
      have g1 : 100 ≤ j := (nI_leI (a := 100) (by omega) hj).mp h3
      have g2 : j < 140 := (nI_ltI (b := 140) hj (by omega)).mp h4
      rw [show nI j - 100 = nI (j - 100) from pk_sub (b := 100) g1, n_div (by omega), n_rem (by omega)]
      by_cases h5 : nI ((j - 100) / 4) < nI (no P) ∧ nI ((j - 100) % 4) < nI (nf P)
      · rw [if_pos (decide_eq_true h5), fslot]
        exact Or.inr ⟨_, Or.inr ⟨(j - 100) / 4, (j - 100) % 4, (n_lt (by omega) (by omega)).mp h5.1, (n_lt (by omega) (by omega)).mp h5.2, rfl⟩, rfl⟩
      · rw [if_neg (fun z => h5 (of_decide_eq_true z))]; exact Or.inl rfl
theorem m_index (h : Base p P K c m) : f_X10_indexOf m 0 v = some (slI P v) := by
  have hP := h.2.2.2.2.2.2.1
  have := hP.1
  have := hP.2.1
  have := hP.2.2.1
  unfold f_X10_indexOf
  rw [m_isVariable h, Option.bind_some]
  unfold slI
  by_cases h1 : (0 : Int32) ≤ v ∧ v < nI (nv P)
  · rw [if_pos h1, if_pos (show inR v (nv P) = true from decide_eq_true h1)]
  · rw [if_neg h1, if_neg (show ¬ inR v (nv P) = true from fun z => h1 (of_decide_eq_true z))]
    by_cases h0 : (0 : Int32) ≤ v - 100
    · rw [if_pos h0]
      obtain ⟨k, hk, hv⟩ := i_nn h0
      have hv2 : v = nI (k + 100) := by
        rw [← n_add, ← hv]
        show v = v - 100 + 100
        rw [Int32.sub_add_cancel]
      rw [hv, n_div hk, n_rem hk, m_isObject h, m_isField h, Option.bind_some, Option.bind_some, inR_n (by omega) (by omega), inR_n (by omega) (by omega)]
      by_cases hk40 : k < 40
      · rw [if_neg (show ¬ (v < (100 : Int32) ∨ (140 : Int32) ≤ v) from fun z => by
          rw [hv2] at z
          rcases z with z | z
          · have := (nI_ltI (b := 100) (by omega) (by omega)).mp z; omega
          · have := (nI_leI (a := 140) (by omega) (by omega)).mp z; omega)]
        by_cases h5 : k / 4 < no P
        · by_cases h6 : k % 4 < nf P
          · rw [decide_eq_true h5, decide_eq_true h6, if_pos rfl, if_pos rfl, Option.bind_some, if_pos rfl, Option.bind_some, if_pos (decide_eq_true ⟨(n_lt (by omega) (by omega)).mpr h5, (n_lt (by omega) (by omega)).mpr h6⟩), fslot]
            show some (nI 16 + nI k) = _
            rw [n_add]
            congr 2
            omega
          · rw [decide_eq_true h5, decide_eq_false h6, if_pos rfl, if_neg (by decide), Option.bind_some, if_neg (by decide), Option.bind_some, if_neg (fun z => h6 ((n_lt (by omega) (by omega)).mp (of_decide_eq_true z).2))]
        · rw [decide_eq_false h5, if_neg (by decide), Option.bind_some, if_neg (by decide), Option.bind_some, if_neg (fun z => h5 ((n_lt (by omega) (by omega)).mp (of_decide_eq_true z).1))]
      · rw [decide_eq_false (show ¬ k / 4 < no P by omega), if_neg (by decide), Option.bind_some, if_neg (by decide), Option.bind_some]
        by_cases h7 : v < (100 : Int32) ∨ (140 : Int32) ≤ v
        · rw [if_pos h7]
        · rw [if_neg h7, if_neg (fun z => by
            have := (nI_ltI (a := k / 4) (by omega) (by omega)).mp (of_decide_eq_true z).1
            omega)]
    · rw [if_neg h0, Option.bind_some, if_neg (by decide), Option.bind_some]
      by_cases h7 : v < (100 : Int32) ∨ (140 : Int32) ≤ v
      · rw [if_pos h7]
      · refine absurd ?_ h0
        have h3 := i_lt (fun z => h7 (Or.inl z))
        obtain ⟨j, hj, rfl⟩ := i_nn (v := v) (by
          rw [Int32.le_iff_toInt_le] at h3 ⊢
          have e1 : (100 : Int32).toInt = 100 := by decide
          have e2 : (0 : Int32).toInt = 0 := by decide
          omega)
        have g1 : 100 ≤ j := (nI_leI (a := 100) (by omega) hj).mp h3
        rw [show nI j - 100 = nI (j - 100) from pk_sub (b := 100) g1]
        exact nI_pos' (by omega)
end BR
