/-! A name in its table: class numberOf, reference identifier. -/
def lim (ty : Nat) : Nat := if ty = 0 then 16 else if ty = 1 then 10 else 4
def Tab (q ty cnt : Nat) (W : Nat → Wrd) (c m : Wd) : Prop := cnt ≤ lim ty ∧ c.1 (q + 1 + 2 * ty) 2 = nI cnt ∧ c.1 (q + 1 + 2 * ty) 1 = nI (lim ty) ∧ m.1 (2 + ty) 1 = nI cnt ∧ (∀ v, v < cnt → WOK (W v) ∧ c.2.1 (q + 2 + 2 * ty) v = cN (W v) ∧ m.2.1 (5 + ty) (lim ty + v) = mN (W v)) ∧ ∀ u v, u < v → v < cnt → cN (W u) ≠ cN (W v)
/-- an error of the parse -/
def Er (c m : Wd) : Prop := ∃ o k, c.1 1 7 = nI (8 * o + k) ∧ m.1 0 8 = nI k ∧ m.1 0 9 = nI o ∧ 1 ≤ k ∧ k ≤ 3 ∧ o ≤ 600
def NoEr (c m : Wd) : Prop := c.1 1 7 = 0 ∧ m.1 0 8 = 0
/-- what reading a name leaves alone -/
def FiC (q ty : Nat) (c c' : Wd) : Prop := (∀ p, p ≠ 1 → p ≠ q + 1 + 2 * ty → c'.1 p = c.1 p) ∧ (∀ j, j ≠ 2 → c'.1 (q + 1 + 2 * ty) j = c.1 (q + 1 + 2 * ty) j) ∧ (∀ j, j ≠ 3 → j ≠ 4 → j ≠ 5 → j ≠ 7 → c'.1 1 j = c.1 1 j) ∧ (∀ p, p ≠ 1 → p ≠ q + 2 + 2 * ty → c'.2.1 p = c.2.1 p) ∧ c'.2.2 = c.2.2
def FiM (ty : Nat) (m m' : Wd) : Prop := (∀ p, p ≠ 0 → p ≠ 2 + ty → m'.1 p = m.1 p) ∧ m'.1 (2 + ty) 0 = m.1 (2 + ty) 0 ∧ (∀ j, ¬ (4 ≤ j ∧ j ≤ 9) → m'.1 0 j = m.1 0 j) ∧ (∀ p, p ≠ 0 → p ≠ 5 + ty → m'.2.1 p = m.2.1 p) ∧ (∀ j, j < lim ty → m'.2.1 (5 + ty) j = m.2.1 (5 + ty) j) ∧ m'.2.2 = m.2.2
section ID
variable {T : Nat → Nat} {n s e k a q ty cnt v o i : Nat} {W : Nat → Wrd} {x : Wrd} {c c' m m' w : Wd} {st : Nat}
theorem lim_le (ty : Nat) : lim ty ≤ 16 := by unfold lim; split <;> (try split) <;> omega
theorem lim_pos (ty : Nat) : 4 ≤ lim ty := by unfold lim; split <;> (try split) <;> omega
theorem zt (hq : PC q) (h : ty < 3) : zrf zC (q + 1 + 2 * ty) 0 = q + 2 + 2 * ty ∧ zln zC (q + 2 + 2 * ty) = 16 := by
  have hh : ty = 0 ∨ ty = 1 ∨ ty = 2 := by omega
  rcases hq with rfl | rfl <;> rcases hh with rfl | rfl | rfl <;> exact ⟨rfl, rfl⟩
theorem zmn (h : ty < 3) : zln zM (5 + ty) = 2 * lim ty ∧ zln zM (2 + ty) = 2 := by
  have hh : ty = 0 ∨ ty = 1 ∨ ty = 2 := by omega
  rcases hh with rfl | rfl | rfl <;> exact ⟨rfl, rfl⟩
theorem half (h : ty < 3) (v : Nat) : jdiv (nI (zln zM (5 + ty))) (2 : Int32) + nI v = nI (lim ty + v) := by
  rw [(zmn h).1]
  have := lim_le ty
  have e : jdiv (nI (2 * lim ty)) (nI 2) = nI (2 * lim ty / 2) := pk_div (d := 2) (by omega) (by omega) (by omega)
  show jdiv (nI (2 * lim ty)) (nI 2) + nI v = _
  rw [e, nI_add, show 2 * lim ty / 2 = lim ty by omega]
theorem namesOf_ty (hq : PC q) (h : ty < 3) : f_X5_namesOf c q (nI ty) = q + 1 + 2 * ty := by
  have hh : ty = 0 ∨ ty = 1 ∨ ty = 2 := by omega
  rcases hq with rfl | rfl <;> rcases hh with rfl | rfl | rfl <;> rfl
/-- is a name in the table, and where -/
def fq (W : Nat → Wrd) (x : Wrd) (v : Nat) : Bool := decide (cN (W v) = cN x)
theorem c_numberOf (hq : PC q) (ht : ty < 3) (hc : c.1 (q + 1 + 2 * ty) 2 = nI cnt) (hl : c.1 (q + 1 + 2 * ty) 1 = nI (lim ty)) (hle : cnt ≤ lim ty) (hw : ∀ v, v < cnt → c.2.1 (q + 2 + 2 * ty) v = cN (W v)) : f_X4_numberOf c (q + 1 + 2 * ty) (cN x) = some (if exb (fq W x) cnt = true then (nI (fstb (fq W x) cnt), c) else if cnt < lim ty then (nI cnt, wsI (wsL c (q + 2 + 2 * ty) cnt (cN x)) (q + 1 + 2 * ty) 2 (nI (cnt + 1))) else (-1, c)) := by
  have h16 := lim_le ty
  obtain ⟨z1, z2⟩ := zt hq ht
  unfold f_X4_numberOf
  refine wp_is ?_
  rw [wp_bind]
  refine wp_mono (lp_inv (fun i s1 => s1 = nI i ∧ ∀ j, j < i → fq W x j = false) (fun r => (r = .inl () ∧ exb (fq W x) cnt = false) ∨ (∃ j, j < cnt ∧ r = .inr (nI j, c) ∧ fq W x j = true ∧ ∀ i, i < j → fq W x i = false)) cnt ?_ ?_ (by unfold NF; omega) ⟨rfl, fun j hj => by omega⟩) ?_
  · rintro i s1 hi ⟨rfl, h2⟩
    unfold b_X4_numberOf_1
    rw [hc, if_pos ((n_lt (by omega) (by omega)).mpr hi), z1, rdL_C (by rw [z2]; omega), Option.bind_some, hw i hi]
    by_cases z : cN (W i) = cN x
    · rw [if_pos z, wp_some]
      exact Or.inr ⟨i, hi, rfl, decide_eq_true z, h2⟩
    · rw [if_neg z, wp_some]
      refine ⟨nI_1 i, fun j hj => ?_⟩
      by_cases y : j = i
      · subst y; exact decide_eq_false z
      · exact h2 j (by omega)
  · rintro s1 ⟨rfl, h2⟩
    unfold b_X4_numberOf_1
    rw [hc, if_neg (fun z => Nat.lt_irrefl _ ((n_lt (by omega) (by omega)).mp z)), wp_some]
    refine Or.inl ⟨rfl, ?_⟩
    cases z : exb (fq W x) cnt with
    | false => rfl
    | true =>
      obtain ⟨j, j1, j2⟩ := exb_iff.mp z
      rw [h2 j j1] at j2; cases j2
  · rintro r (⟨rfl, z⟩ | ⟨j, j1, rfl, j2, j3⟩)
    · dsimp only
      rw [hl, hc, if_neg (show ¬ exb (fq W x) cnt = true by rw [z]; decide)]
      by_cases y : cnt < lim ty
      · rw [if_neg (fun t => by have := (n_le (by omega) (by omega)).mp t; omega), if_pos y, z1, wrL_C (by rw [z2]; omega), Option.bind_some, Option.bind_some, wp_some]
        have e1 : (wsL c (q + 2 + 2 * ty) cnt (cN x)).1 (q + 1 + 2 * ty) 2 + 1 = nI (cnt + 1) := by
          show c.1 (q + 1 + 2 * ty) 2 + 1 = _
          rw [hc]; exact nI_1 cnt
        rw [e1, wsI_s, upd_s, show nI (cnt + 1) - 1 = nI cnt from pk_sub (b := 1) (by omega)]
      · rw [if_pos ((n_le (by omega) (by omega)).mpr (by omega)), if_neg y, wp_some]
    · dsimp only
      rw [wp_some, if_pos (exb_iff.mpr ⟨j, j1, j2⟩), fstb_uniq j1 j2 j3]
/-! the reference -/
theorem m_must (h0 : m.1 0 8 = 0) (b : Bool) {kk : Nat} (hk : 1 ≤ kk ∧ kk ≤ 3) : f_X10_must m 0 b (nI kk) = some (b, if b = true then m else wsI (wsI m 0 8 (nI kk)) 0 9 (m.1 0 4)) := by
  unfold f_X10_must
  cases b with
  | true => rw [if_neg (fun z => z.2 rfl), Option.bind_some, h0]; rfl
  | false =>
    rw [if_pos ⟨h0, by decide⟩, Option.bind_some, Option.bind_some, Option.bind_some, if_neg (by decide)]
    have e1 : (wsI m 0 8 (nI kk)).1 0 4 = m.1 0 4 := by rw [wsI_s, upd_o (by omega)]
    rw [e1]
    have e2 : (wsI (wsI m 0 8 (nI kk)) 0 9 (m.1 0 4)).1 0 8 = nI kk := by rw [wsI_s, upd_o (by omega), wsI_s, upd_s]
    rw [e2, decide_eq_false (fun z => by have := (n_eq (b := 0) (by omega) (by omega)).mp z; omega)]
theorem m_must_err (h0 : m.1 0 8 ≠ 0) (b : Bool) (x : Int32) : f_X10_must m 0 b x = some (false, m) := by
  unfold f_X10_must
  rw [if_neg (fun z => h0 z.1), Option.bind_some, decide_eq_false h0]
theorem m_must_keep {x : Int32} (b : Bool) (h0 : m.1 0 8 = 0) : f_X10_must m 0 b x = some (decide ((if b = true then m else wsI (wsI m 0 8 x) 0 9 (m.1 0 4)).1 0 8 = 0), if b = true then m else wsI (wsI m 0 8 x) 0 9 (m.1 0 4)) := by
  unfold f_X10_must
  cases b with
  | true => rw [if_neg (fun z => z.2 rfl), Option.bind_some]; rfl
  | false =>
    rw [if_pos ⟨h0, by decide⟩, Option.bind_some, Option.bind_some, Option.bind_some, if_neg (by decide)]
    have e1 : (wsI m 0 8 x).1 0 4 = m.1 0 4 := by rw [wsI_s, upd_o (by omega)]
    rw [e1]
/-- in an error a name is not read -/
theorem m_ident_err (h0 : m.1 0 8 ≠ 0) {a b : Nat} {y : Int32} : f_X10_identifier m 0 a b y = some (0, m) := by
  unfold f_X10_identifier
  rw [m_keyword_err h0]
  have e : ∃ b2, (if m.1 0 6 = (1 : Int32) then Option.bind (some (-1 : Int32)) fun x5 => if x5 < (0 : Int32) then some true else some false else some false) = some b2 := by
    by_cases z : m.1 0 6 = (1 : Int32)
    · exact ⟨true, by rw [if_pos z]; rfl⟩
    · exact ⟨false, by rw [if_neg z]⟩
  obtain ⟨b2, e⟩ := e
  rw [e, Option.bind_some, m_must_err h0, Option.bind_some]; rfl
/-- is the token a name -/
def nmq (k : Nat) (w : Wrd) : Bool := decide (k = 1) && !exb (kwq w) 6
theorem nmq_kw (k : Nat) (w : Wrd) : nmq k w = true ↔ (k = 1 ∧ kwR k w = -1) := by
  unfold nmq kwR
  by_cases hk : k = 1
  · rw [decide_eq_true hk, Bool.true_and]
    cases h : exb (kwq w) 6 with
    | false => rw [if_neg (fun z => by cases z.2)]; exact ⟨fun _ => ⟨hk, rfl⟩, fun _ => rfl⟩
    | true =>
      rw [if_pos ⟨hk, rfl⟩]
      have := (fstb_ok h).1
      exact ⟨fun z => (by cases z), fun z => absurd z.2 (n_m1 (by omega))⟩
  · rw [decide_eq_false hk]
    exact ⟨fun z => (by cases z), fun z => absurd z.1 hk⟩
theorem m_nameTok (h : LX T n s e k c m) (h0 : m.1 0 8 = 0) : (if m.1 0 6 = (1 : Int32) then Option.bind (f_X10_keyword m 0) fun x5 => if x5 < (0 : Int32) then some true else some false else some false) = some (nmq k (wd T s e)) := by
  have k3 := h.2.2.2.2.2.2.1
  have h6 := h.2.2.2.1.2.2.1
  rw [m_keyword h h0, h6]
  by_cases hk : k = 1
  · rw [if_pos (show nI k = (1 : Int32) by rw [hk]; rfl), Option.bind_some]
    rcases kwR_cases k (wd T s e) with q | ⟨j, j1, q, -⟩
    · rw [q, if_pos (by decide), (nmq_kw k (wd T s e)).mpr ⟨hk, q⟩]
    · rw [q, if_neg (n_neg (by omega))]
      cases z : nmq k (wd T s e) with
      | false => rfl
      | true => exact absurd (q.symm.trans ((nmq_kw _ _).mp z).2) (n_m1 (by omega))
  · rw [if_neg (show ¬ nI k = (1 : Int32) from k_no (b := 1) (by omega) (by omega) hk)]
    unfold nmq
    rw [decide_eq_false hk]; rfl
theorem c_nameTok (h : LX T n s e k c m) : (if ¬ c.1 1 4 = (1 : Int32) then some true else Option.bind (f_X5_keyword c 1) fun x5 => if ¬ x5 = (-1 : Int32) then some true else some false) = some (!nmq k (wd T s e)) := by
  have k3 := h.2.2.2.2.2.2.1
  have h4 := h.2.2.1.2.2.1
  rw [c_keyword h, h4]
  by_cases hk : k = 1
  · rw [if_neg (fun z => z (show nI k = (1 : Int32) by rw [hk]; rfl)), Option.bind_some]
    by_cases q : kwR k (wd T s e) = -1
    · rw [if_neg (fun z => z q), (nmq_kw k (wd T s e)).mpr ⟨hk, q⟩]; rfl
    · rw [if_pos q]
      cases z : nmq k (wd T s e) with
      | false => rfl
      | true => exact absurd ((nmq_kw _ _).mp z).2 q
  · rw [if_pos (show ¬ nI k = (1 : Int32) from k_no (b := 1) (by omega) (by omega) hk)]
    unfold nmq
    rw [decide_eq_false hk]; rfl
theorem m_find (hm : m.2.1 0 7 = mN x) (hx : WOK x) (ht : ty < 3) (hc : m.1 (2 + ty) 1 = nI cnt) (hle : cnt ≤ lim ty) (hw : ∀ v, v < cnt → WOK (W v) ∧ m.2.1 (5 + ty) (lim ty + v) = mN (W v)) {b : Bool} : lp (b_X10_identifier_1 (b, m) (2 + ty) (5 + ty) 0) NF (0 : Int32) = some (nI (if exb (fq W x) cnt = true then fstb (fq W x) cnt else cnt)) := by
  have h16 := lim_le ty
  obtain ⟨z1, z2⟩ := zmn ht
  refine wp_is ?_
  have stay : ∀ i, i < cnt → fq W x i = true → (∀ j, j < i → fq W x j = false) → i = (if exb (fq W x) cnt = true then fstb (fq W x) cnt else cnt) := fun i h1 h2 h3 => by
    rw [if_pos (exb_iff.mpr ⟨i, h1, h2⟩), fstb_uniq h1 h2 h3]
  refine lp_inv (fun i s1 => s1 = nI i ∧ ∀ j, j < i → fq W x j = false) (fun r => r = nI (if exb (fq W x) cnt = true then fstb (fq W x) cnt else cnt)) cnt ?_ ?_ (by unfold NF; omega) ⟨rfl, fun j hj => by omega⟩
  · rintro i s1 hi ⟨rfl, h2⟩
    unfold b_X10_identifier_1
    show wp (Option.bind (Option.bind (rdI zM m (2 + ty) (nI 1)) _) _) _
    rw [rdI_M (by rw [z2]; omega), Option.bind_some, hc, if_pos ((n_lt (by omega) (by omega)).mpr hi), half ht, rdL_M (by rw [z1]; omega), Option.bind_some, (hw i hi).2, hm]
    by_cases z : mN (W i) = mN x
    · rw [if_neg (fun y => y z), Option.bind_some, if_neg (by decide), wp_some]
      exact congrArg nI (stay i hi (decide_eq_true ((name_eq (hw i hi).1 hx).mpr z)) h2)
    · rw [if_pos z, Option.bind_some, if_pos rfl, wp_some]
      refine ⟨nI_1 i, fun j hj => ?_⟩
      by_cases y : j = i
      · subst y; exact decide_eq_false (fun t => z ((name_eq (hw j hi).1 hx).mp t))
      · exact h2 j (by omega)
  · rintro s1 ⟨rfl, h2⟩
    unfold b_X10_identifier_1
    show wp (Option.bind (Option.bind (rdI zM m (2 + ty) (nI 1)) _) _) _
    rw [rdI_M (by rw [z2]; omega), Option.bind_some, hc, if_neg (fun z => Nat.lt_irrefl _ ((n_lt (by omega) (by omega)).mp z)), Option.bind_some, if_neg (by decide), wp_some]
    have : ¬ exb (fq W x) cnt = true := fun z => by
      obtain ⟨j, j1, j2⟩ := exb_iff.mp z
      rw [h2 j j1] at j2; cases j2
    show nI cnt = nI _
    rw [if_neg this]
end ID
