/-! Keywords. -/
def KB : List (List Nat) := [[110, 101, 119], [99, 111, 112, 121], [108, 111, 97, 100], [115, 116, 111, 114, 101], [99, 97, 108, 108], [102, 117, 110]]
def KW (i : Nat) : Wrd := ((KB.getD i []).length, fun k => (KB.getD i []).getD k 0)
theorem KW_ok : ∀ i, i < 6 → WOK (KW i) := by
  have h : ∀ i, i < 6 → (KW i).1 ≤ 6 ∧ ∀ j, j < 6 → j < (KW i).1 → 97 ≤ (KW i).2 j ∧ (KW i).2 j ≤ 122 := by decide +kernel
  exact fun i hi => ⟨(h i hi).1, fun j hj => (h i hi).2 j (by have := (h i hi).1; omega) hj⟩
theorem KW_c : ∀ i, i < 6 → kwT i = cN (KW i) := by decide +kernel
theorem KW_m : ∀ i, i < 6 → f_X10_coded i = some (mN (KW i)) := by decide +kernel
/-- which keyword a word is; -1 for none -/
def kwq (w : Wrd) (j : Nat) : Bool := decide (cN w = cN (KW j))
def kwR (k : Nat) (w : Wrd) : Int32 := if k = 1 ∧ exb (kwq w) 6 = true then nI (fstb (kwq w) 6) else -1
theorem kwR_cases (k : Nat) (w : Wrd) : kwR k w = -1 ∨ ∃ j, j < 6 ∧ kwR k w = nI j ∧ k = 1 := by
  unfold kwR
  by_cases h : k = 1 ∧ exb (kwq w) 6 = true
  · rw [if_pos h]; exact Or.inr ⟨_, (fstb_ok h.2).1, rfl, h.1⟩
  · rw [if_neg h]; exact Or.inl rfl
section KY
variable {T : Nat → Nat} {n s e k a : Nat} {c c' m m' : Wd}
theorem c_keyword (h : LX T n s e k c m) : f_X5_keyword c 1 = some (kwR k (wd T s e)) := by
  obtain ⟨-, -, ⟨-, -, h4, hw⟩, -, -, -, k3, -, -⟩ := h
  unfold f_X5_keyword
  refine wp_is ?_
  rw [wp_bind]
  by_cases hk : k = 1
  · refine wp_mono (lp_inv (fun i s1 => s1 = nI i ∧ ∀ j, j < i → kwq (wd T s e) j = false) (fun r => (r = .inl () ∧ exb (kwq (wd T s e)) 6 = false) ∨ (∃ j, j < 6 ∧ r = .inr (nI j) ∧ kwq (wd T s e) j = true ∧ ∀ i, i < j → kwq (wd T s e) i = false)) 6 ?_ ?_ (by decide) ⟨rfl, fun j hj => by omega⟩) ?_
    · rintro i s1 hi ⟨rfl, h2⟩
      unfold b_X5_keyword_1
      rw [if_pos (show nI i < (6 : Int32) from (n_lt (b := 6) (by omega) (by omega)).mpr hi), h4, if_pos (show nI k = (1 : Int32) by rw [hk]; rfl), rdS_at hi (by omega), Option.bind_some, KW_c i hi, hw hk]
      by_cases q : cN (KW i) = cN (wd T s e)
      · rw [if_pos q, Option.bind_some, if_pos rfl, wp_some]
        exact Or.inr ⟨i, hi, rfl, decide_eq_true q.symm, h2⟩
      · rw [if_neg q, Option.bind_some, if_neg (by decide), wp_some]
        refine ⟨nI_1 i, fun j hj => ?_⟩
        by_cases z : j = i
        · subst z; exact decide_eq_false fun y => q y.symm
        · exact h2 j (by omega)
    · rintro s1 ⟨rfl, h2⟩
      unfold b_X5_keyword_1
      rw [if_neg (show ¬ nI 6 < (6 : Int32) by decide), wp_some]
      refine Or.inl ⟨rfl, ?_⟩
      cases q : exb (kwq (wd T s e)) 6 with
      | false => rfl
      | true =>
        obtain ⟨j, j1, j2⟩ := exb_iff.mp q
        rw [h2 j j1] at j2; cases j2
    · rintro r (⟨rfl, q⟩ | ⟨j, j1, rfl, j2, j3⟩)
      · dsimp only
        rw [wp_some]
        unfold kwR
        rw [if_neg (fun z => by rw [q] at z; cases z.2)]
      · dsimp only
        rw [wp_some]
        unfold kwR
        rw [if_pos ⟨hk, exb_iff.mpr ⟨j, j1, j2⟩⟩, fstb_uniq j1 j2 j3]
  · refine wp_mono (lp_inv (fun i s1 => s1 = nI i) (fun r => r = .inl ()) 6 ?_ ?_ (by decide) rfl) ?_
    · rintro i s1 hi rfl
      unfold b_X5_keyword_1
      rw [if_pos (show nI i < (6 : Int32) from (n_lt (b := 6) (by omega) (by omega)).mpr hi), h4, if_neg (show ¬ nI k = (1 : Int32) from k_no (b := 1) (by omega) (by omega) hk), Option.bind_some, if_neg (by decide), wp_some]
      exact nI_1 i
    · rintro s1 rfl
      unfold b_X5_keyword_1
      rw [if_neg (show ¬ nI 6 < (6 : Int32) by decide), wp_some]
      rfl
    · rintro r rfl
      dsimp only
      rw [wp_some]
      unfold kwR
      rw [if_neg (fun z => hk z.1)]
theorem m_is (h : LX T n s e k c m) (h0 : m.1 0 8 = 0) {j : Nat} (hj : j < 6) : f_X10_is m 0 j = some (decide (k = 1) && kwq (wd T s e) j) := by
  obtain ⟨-, -, -, ⟨-, -, h6, hw⟩, -, -, k3, -, hok, -⟩ := h
  unfold f_X10_is
  rw [if_pos h0, h6, KW_m j hj]
  by_cases hk : k = 1
  · rw [if_pos (show nI k = (1 : Int32) by rw [hk]; rfl), Option.bind_some, hw hk, decide_eq_true hk, Bool.true_and]
    unfold kwq
    by_cases q : mN (wd T s e) = mN (KW j)
    · rw [if_pos q, decide_eq_true ((name_eq (hok hk) (KW_ok j hj)).mpr q)]; rfl
    · rw [if_neg q, decide_eq_false (fun z => q ((name_eq (hok hk) (KW_ok j hj)).mp z))]; rfl
  · rw [if_neg (show ¬ nI k = (1 : Int32) from k_no (b := 1) (by omega) (by omega) hk), decide_eq_false hk]; rfl
theorem m_keyword (h : LX T n s e k c m) (h0 : m.1 0 8 = 0) : f_X10_keyword m 0 = some (kwR k (wd T s e)) := by
  unfold f_X10_keyword
  rw [m_is h h0 (show 0 < 6 by omega), m_is h h0 (show 1 < 6 by omega), m_is h h0 (show 2 < 6 by omega), m_is h h0 (show 3 < 6 by omega), m_is h h0 (show 4 < 6 by omega), m_is h h0 (show 5 < 6 by omega)]
  by_cases hk : k = 1
  · rw [decide_eq_true hk]
    unfold kwR exb exb exb exb exb exb exb fstb fstb fstb fstb fstb fstb fstb exb exb exb exb exb exb
    cases h0 : kwq (wd T s e) 0 <;> cases h1 : kwq (wd T s e) 1 <;> cases h2 : kwq (wd T s e) 2 <;> cases h3 : kwq (wd T s e) 3 <;> cases h4 : kwq (wd T s e) 4 <;> cases h5 : kwq (wd T s e) 5 <;> simp [hk] <;> rfl
  · rw [decide_eq_false hk]
    unfold kwR
    rw [if_neg (fun z => hk z.1)]; rfl
/-- in an error the reference sees no keyword -/
theorem m_is_err (h0 : m.1 0 8 ≠ 0) (j : Nat) : f_X10_is m 0 j = some false := by
  unfold f_X10_is
  rw [if_neg h0]; rfl
theorem m_keyword_err (h0 : m.1 0 8 ≠ 0) : f_X10_keyword m 0 = some (-1) := by
  unfold f_X10_keyword
  rw [m_is_err h0, m_is_err h0, m_is_err h0, m_is_err h0, m_is_err h0, m_is_err h0]
  rfl
end KY
