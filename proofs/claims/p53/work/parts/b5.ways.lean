-- deps: b4
/-! Sums over slots as sums over the law's indices; the shortest ways of the law. -/
theorem idx_cn : ∀ (n N : Nat) (g : Nat → Nat) (q : Nat → Bool), (∀ i j, i < j → j < n → g i < g j) → (∀ i, i < n → g i < N) → (∀ s, s < N → q s = true → ∃ i, i < n ∧ g i = s) → cn q N = cn (fun i => q (g i)) n := by
  intro n
  induction n with
  | zero =>
    intro N g q _ _ hs
    refine (cn_stop (n := 0) (Nat.zero_le N) fun j _ hj => ?_).trans rfl
    cases e : q j with
    | false => rfl
    | true => obtain ⟨i, hi, -⟩ := hs j hj e; omega
  | succ n ih =>
    intro N g q hm hl hs
    have h0 := hl n (by omega)
    have h1 : cn q N = cn q (g n + 1) := cn_stop (by omega) fun j h1 h2 => by
      cases e : q j with
      | false => rfl
      | true =>
        obtain ⟨i, hi, e2⟩ := hs j h2 e
        by_cases z : i = n
        · subst z; omega
        · have := hm i n (by omega) (by omega); omega
    rw [h1]
    show cn q (g n) + _ = cn (fun i => q (g i)) n + _
    rw [ih (g n) g q (fun i j h1 h2 => hm i j h1 (by omega)) (fun i hi => hm i n hi (by omega)) (fun s h1 h2 => by
      obtain ⟨i, hi, e2⟩ := hs s (by omega) h2
      refine ⟨i, ?_, e2⟩
      by_cases z : i = n
      · subst z; omega
      · omega)]
theorem idx_sm : ∀ (n N : Nat) (g : Nat → Nat) (q : Nat → Nat), (∀ i j, i < j → j < n → g i < g j) → (∀ i, i < n → g i < N) → (∀ s, s < N → q s ≠ 0 → ∃ i, i < n ∧ g i = s) → sm q N = sm (fun i => q (g i)) n := by
  have stop : ∀ (q : Nat → Nat) (k n : Nat), n ≤ k → (∀ j, n ≤ j → j < k → q j = 0) → sm q k = sm q n := by
    intro q k
    induction k with
    | zero => intro n h _; rw [show n = 0 by omega]
    | succ k ih =>
      intro n h hq
      by_cases z : n = k + 1
      · rw [z]
      · rw [sm, hq k (by omega) (by omega), Nat.add_zero]
        exact ih n (by omega) fun j h1 h2 => hq j h1 (by omega)
  intro n
  induction n with
  | zero =>
    intro N g q _ _ hs
    refine (stop q N 0 (Nat.zero_le N) fun j _ hj => ?_).trans rfl
    rcases Nat.eq_zero_or_pos (q j) with e | e
    · exact e
    · obtain ⟨i, hi, -⟩ := hs j hj (by omega); omega
  | succ n ih =>
    intro N g q hm hl hs
    have h0 := hl n (by omega)
    have h1 : sm q N = sm q (g n + 1) := stop q N _ (by omega) fun j h1 h2 => by
      rcases Nat.eq_zero_or_pos (q j) with e | e
      · exact e
      · obtain ⟨i, hi, e2⟩ := hs j h2 (by omega)
        by_cases z : i = n
        · subst z; omega
        · have := hm i n (by omega) (by omega); omega
    rw [h1]
    show sm q (g n) + _ = sm (fun i => q (g i)) n + _
    rw [ih (g n) g q (fun i j h1 h2 => hm i j h1 (by omega)) (fun i hi => hm i n hi (by omega)) (fun s h1 h2 => by
      obtain ⟨i, hi, e2⟩ := hs s (by omega) h2
      refine ⟨i, ?_, e2⟩
      by_cases z : i = n
      · subst z; omega
      · omega)]
/-- the law's table of ways -/
def di (E : Nat → Nat → Bool) : Nat → Nat → Nat → Nat
  | 0 => fun a b => if a = b then 0 else if E a b = true then 1 else 1000
  | k + 1 => fun a b => min (di E k a b) (di E k a k + di E k k b)
section DI
variable {E : Nat → Nat → Bool} {k a b j : Nat}
theorem di_s : di E (k + 1) a b = min (di E k a b) (di E k a k + di E k k b) := rfl
theorem di_le : di E k a b ≤ 1000 := by
  induction k with
  | zero => unfold di; split <;> (try split) <;> omega
  | succ k ih => rw [di_s]; omega
theorem di_diag : di E k a a = 0 := by
  induction k with
  | zero => unfold di; rw [if_pos rfl]
  | succ k ih => rw [di_s]; omega
theorem di_col : di E (k + 1) a k = di E k a k := by rw [di_s]; omega
theorem di_row : di E (k + 1) k b = di E k k b := by rw [di_s]; omega
theorem di_mono : ∀ k, di E k a b ≤ di E 0 a b := by
  intro k
  induction k with
  | zero => exact Nat.le_refl _
  | succ k ih => rw [di_s]; omega
theorem di_tri : ∀ k j, j < k → ∀ a b, di E k a b ≤ di E k a j + di E k j b := by
  intro k
  induction k with
  | zero => intro j hj; omega
  | succ k ih =>
    intro j hj a b
    by_cases e : j = k
    · subst e
      rw [di_col, di_row, di_s]; omega
    · have t1 := ih j (by omega) a b
      have t2 := ih j (by omega) a k
      have t3 := ih j (by omega) k b
      rw [di_s, di_s, di_s]; omega
end DI
section WY
variable {P : PK} {K : CK} {s t j n m L a b k : Nat}
theorem stp_s : stp P K s (n + 1) t = (stp P K s n t || exb (fun y => stp P K s n y && ED P K y t) 56) := rfl
theorem stp_up (h : stp P K s n t = true) : stp P K s (n + 1) t = true := by rw [stp_s, h]; rfl
theorem stp_mono (hm : n ≤ m) (h : stp P K s n t = true) : stp P K s m t = true := by
  induction m with
  | zero => rw [show n = 0 by omega] at h; exact h
  | succ m ih =>
    by_cases e : n = m + 1
    · rw [← e]; exact h
    · exact stp_up (ih (by omega))
theorem stp_edge (hj : j < 56) (h : stp P K s n j = true) (e : ED P K j t = true) : stp P K s (n + 1) t = true := by
  rw [stp_s, Bool.or_eq_true]
  exact Or.inr (exb_iff.mpr ⟨j, hj, by rw [h, e]; rfl⟩)
theorem stp_trans (hj : j < 56) (h : stp P K s n j = true) : ∀ m t, stp P K j m t = true → stp P K s (n + m) t = true := by
  intro m
  induction m with
  | zero => intro t h2; rw [of_decide_eq_true h2]; exact h
  | succ m ih =>
    intro t h2
    rw [stp_s, Bool.or_eq_true] at h2
    rcases h2 with h2 | h2
    · exact stp_mono (by omega) (ih t h2)
    · obtain ⟨y, hy, h3⟩ := exb_iff.mp h2
      rw [Bool.and_eq_true] at h3
      exact stp_edge hy (ih y h3.1) h3.2
theorem stp_lt (hP : PWF P) (hK : CWF P K) (hs : s < 56) : ∀ n t, stp P K s n t = true → t < 56 := by
  intro n
  induction n with
  | zero => intro t h; rw [of_decide_eq_true h]; exact hs
  | succ n ih =>
    intro t h
    rw [stp_s, Bool.or_eq_true] at h
    rcases h with h | h
    · exact ih t h
    · obtain ⟨y, hy, h3⟩ := exb_iff.mp h
      rw [Bool.and_eq_true] at h3
      exact (ED_lt hP hK h3.2).2.1
/-- no way is longer than 55 -/
theorem stp_55 (hP : PWF P) (hK : CWF P K) (hs : s < 56) (h : stp P K s L t = true) : stp P K s 55 t = true := by
  have hex : ∃ n, n ≤ 55 ∧ ∀ y, y < 56 → stp P K s (n + 1) y = true → stp P K s n y = true := by
    refine Classical.byContradiction fun z => ?_
    have grow : ∀ n, n ≤ 56 → n + 1 ≤ cn (stp P K s n) 56 := by
      intro n
      induction n with
      | zero =>
        intro _
        exact cn_pos hs (decide_eq_true rfl)
      | succ n ih =>
        intro hn
        have h1 := ih (by omega)
        have : ∃ y, y < 56 ∧ stp P K s (n + 1) y = true ∧ stp P K s n y = false := Classical.byContradiction fun w => z ⟨n, by omega, fun y hy h2 => by
          cases e : stp P K s n y with
          | true => rfl
          | false => exact absurd ⟨y, hy, h2, e⟩ w⟩
        obtain ⟨y, hy, h2, h3⟩ := this
        have := cn_lt (p := stp P K s n) (q := stp P K s (n + 1)) (n := 56) (fun i _ q => stp_up q) hy h3 h2
        omega
    have h1 := grow 56 (by omega)
    have h2 := cn_le (stp P K s 56) 56
    omega
  obtain ⟨n, hn, hst⟩ := hex
  have stay : ∀ d y, stp P K s (n + d) y = true → stp P K s n y = true := by
    intro d
    induction d with
    | zero => intro y h; exact h
    | succ d ih =>
      intro y h
      rw [show n + (d + 1) = n + d + 1 by omega, stp_s, Bool.or_eq_true] at h
      rcases h with h | h
      · exact ih y h
      · obtain ⟨x, hx, h3⟩ := exb_iff.mp h
        rw [Bool.and_eq_true] at h3
        exact hst y (ED_lt hP hK h3.2).2.1 (stp_edge hx (ih x h3.1) h3.2)
  by_cases hL : L ≤ n
  · exact stp_mono (by omega) h
  · exact stp_mono hn (stay (L - n) t (by rw [show n + (L - n) = L by omega]; exact h))
theorem rch_up : ∀ b, rch P K 0 s t = true → rch P K b s t = true := by
  intro b
  induction b with
  | zero => exact id
  | succ b ih => intro h; show (_ || _) = true; rw [ih h]; rfl
theorem rch_stp (hP : PWF P) (hK : CWF P K) : ∀ b, b ≤ 56 → ∀ s t, s < 56 → rch P K b s t = true → ∃ L, stp P K s L t = true := by
  intro b
  induction b with
  | zero =>
    intro _ s t hs h
    have h : (ED P K s t || decide (s = t)) = true := h
    rw [Bool.or_eq_true] at h
    rcases h with h | h
    · exact ⟨1, stp_edge (n := 0) hs (decide_eq_true rfl) h⟩
    · exact ⟨0, decide_eq_true (of_decide_eq_true h).symm⟩
  | succ b ih =>
    intro hb s t hs h
    have h : (rch P K b s t || (rch P K b s b && rch P K b b t)) = true := h
    rw [Bool.or_eq_true, Bool.and_eq_true] at h
    rcases h with h | ⟨h1, h2⟩
    · exact ih (by omega) s t hs h
    · obtain ⟨L1, g1⟩ := ih (by omega) s b hs h1
      obtain ⟨L2, g2⟩ := ih (by omega) b t (by omega) h2
      exact ⟨L1 + L2, stp_trans (by omega) g1 L2 t g2⟩
theorem stp_rch : ∀ L t, stp P K s L t = true → rch P K 56 s t = true := by
  intro L
  induction L with
  | zero => intro t h; rw [of_decide_eq_true h]; exact rch_refl 56 s
  | succ L ih =>
    intro t h
    rw [stp_s, Bool.or_eq_true] at h
    rcases h with h | h
    · exact ih t h
    · obtain ⟨y, hy, h3⟩ := exb_iff.mp h
      rw [Bool.and_eq_true] at h3
      refine rch_closed 56 y hy s t (ih y h3.1) (rch_up 56 ?_)
      show (ED P K y t || decide (y = t)) = true
      rw [h3.2, Bool.true_or]
/-- the edges between the law's indices -/
noncomputable def EI (P : PK) (K : CK) (a b : Nat) : Bool := ED P K (sI P a) (sI P b)
theorem di_sound (hP : PWF P) : ∀ k, k ≤ nL P → ∀ a b, a < nL P → b < nL P → di (EI P K) k a b < 1000 → stp P K (sI P a) (di (EI P K) k a b) (sI P b) = true := by
  intro k
  induction k with
  | zero =>
    intro _ a b ha hb h
    unfold di at h ⊢
    by_cases e : a = b
    · rw [if_pos e, e]; exact decide_eq_true rfl
    · rw [if_neg e] at h ⊢
      by_cases e2 : EI P K a b = true
      · rw [if_pos e2]
        exact stp_edge (n := 0) (sI_lt hP ha) (decide_eq_true rfl) e2
      · rw [if_neg e2] at h; omega
  | succ k ih =>
    intro hk a b ha hb h
    rw [di_s] at h ⊢
    rcases Nat.le_total (di (EI P K) k a b) (di (EI P K) k a k + di (EI P K) k k b) with z | z
    · rw [Nat.min_eq_left z] at h ⊢
      exact ih (by omega) a b ha hb h
    · rw [Nat.min_eq_right z] at h ⊢
      exact stp_trans (sI_lt hP (by omega)) (ih (by omega) a k ha (by omega) (by omega)) _ _ (ih (by omega) k b (by omega) hb (by omega))
theorem di_full (hP : PWF P) (hK : CWF P K) (ha : a < nL P) : ∀ L t, stp P K (sI P a) L t = true → ∃ b, b < nL P ∧ sI P b = t ∧ di (EI P K) (nL P) a b ≤ L := by
  intro L
  induction L with
  | zero => intro t h; exact ⟨a, ha, (of_decide_eq_true h).symm, by rw [di_diag]; omega⟩
  | succ L ih =>
    intro t h
    rw [stp_s, Bool.or_eq_true] at h
    rcases h with h | h
    · obtain ⟨b, h1, h2, h3⟩ := ih t h
      exact ⟨b, h1, h2, by omega⟩
    · obtain ⟨y, hy, h3⟩ := exb_iff.mp h
      rw [Bool.and_eq_true] at h3
      obtain ⟨j, j1, rfl, j3⟩ := ih y h3.1
      obtain ⟨b, b1, rfl⟩ := sI_surj hP (ED_exi hP hK h3.2).2
      refine ⟨b, b1, rfl, ?_⟩
      have t1 := di_tri (E := EI P K) (nL P) j j1 a b
      have t2 := di_mono (E := EI P K) (a := j) (b := b) (nL P)
      have t3 : di (EI P K) 0 j b ≤ 1 := by
        unfold di
        by_cases e : j = b
        · rw [if_pos e]; omega
        · rw [if_neg e, if_pos (show EI P K j b = true from h3.2)]; omega
      omega
/-- the law's number for a way -/
theorem di_dist (hP : PWF P) (hK : CWF P K) (ha : a < nL P) (hb : b < nL P) : (if exb (fun n => stp P K (sI P a) n (sI P b)) 56 = true then nI (fstb (fun n => stp P K (sI P a) n (sI P b)) 56) else -2) = if di (EI P K) (nL P) a b < 1000 then nI (di (EI P K) (nL P) a b) else (-2 : Int32) := by
  have hs := sI_lt hP ha
  have full : ∀ L, stp P K (sI P a) L (sI P b) = true → di (EI P K) (nL P) a b ≤ L := fun L h => by
    obtain ⟨b', h1, h2, h3⟩ := di_full hP hK ha L _ h
    rw [sI_inj hP h1 hb h2] at h3
    exact h3
  by_cases h : di (EI P K) (nL P) a b < 1000
  · have s1 := di_sound (K := K) hP (nL P) (Nat.le_refl _) a b ha hb h
    have s2 := full 55 (stp_55 hP hK hs s1)
    have s3 : fstb (fun n => stp P K (sI P a) n (sI P b)) 56 = di (EI P K) (nL P) a b := fstb_uniq (by omega) s1 fun j hj => by
      cases e : stp P K (sI P a) j (sI P b) with
      | false => rfl
      | true => have := full j e; omega
    rw [if_pos h, if_pos (show exb (fun n => stp P K (sI P a) n (sI P b)) 56 = true from exb_iff.mpr ⟨di (EI P K) (nL P) a b, by omega, s1⟩), s3]
  · rw [if_neg h, if_neg fun z => by
      obtain ⟨j, hj, e⟩ := exb_iff.mp z
      have := full j e
      omega]
theorem di_tg (hP : PWF P) (hK : CWF P K) (ha : a < nL P) (hb : b < nL P) : tg P K (sI P a) (sI P b) = decide (di (EI P K) (nL P) a b < 1000 ∧ di (EI P K) (nL P) b a < 1000) := by
  have key : ∀ {a b : Nat}, a < nL P → b < nL P → (rch P K 56 (sI P a) (sI P b) = true ↔ di (EI P K) (nL P) a b < 1000) := fun {a b} ha hb => by
    constructor
    · intro h
      obtain ⟨L, hL⟩ := rch_stp hP hK 56 (Nat.le_refl _) _ _ (sI_lt hP ha) h
      obtain ⟨b', h1, h2, h3⟩ := di_full hP hK ha 55 _ (stp_55 hP hK (sI_lt hP ha) hL)
      rw [sI_inj hP h1 hb h2] at h3
      omega
    · intro h
      exact stp_rch _ _ (di_sound (K := K) hP (nL P) (Nat.le_refl _) a b ha hb h)
  have k1 := key ha hb
  have k2 := key hb ha
  unfold tg
  refine Bool.eq_iff_iff.mpr ?_
  rw [Bool.and_eq_true, decide_eq_true_eq, k1, k2]
theorem LF_edge (hP : PWF P) (hK : CWF P K) {o : Nat} (h : ED P K s t = true) (hb : bt (SS P K (RR P K) s) o = true) : bt (SS P K (RR P K) t) o = true := by
  obtain ⟨n, hn, e⟩ := exb_iff.mp h
  show bt (LF P K t) o = true
  refine LF_closed (n := n) hP hK ?_
  unfold edn at e
  rw [Bool.and_eq_true, Bool.and_eq_true, decide_eq_true_eq] at e
  obtain ⟨⟨⟨e1, e2, e3, e4, e5, e6⟩, e7⟩, e8⟩ := e
  unfold dvn
  rw [decide_eq_true e1, e7, if_neg e2, decide_eq_true e3, e8, decide_eq_true e5, e4]
  exact hb
end WY
