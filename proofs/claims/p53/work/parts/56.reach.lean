/-! Reachable objects. -/
noncomputable def hop (P : PK) (K : CK) (S : Int32) (x n : Nat) : Bool := bt S (n / 4) && bt (LF P K (16 + n)) x
noncomputable def RX (P : PK) (K : CK) (S : Int32) : Int32 := mkI (fun x => bt S x || exb (hop P K S x) 40) 10
noncomputable def RSq (P : PK) (K : CK) (o : Nat) : Nat → Int32
  | 0 => jshl 1 (nI o)
  | n + 1 => RX P K (RSq P K o n)
section RC
variable {p : Nat} {P : PK} {K : CK} {c m m0 m' : Wd} {o n i j x : Nat} {v : Int32} {S : Int32}
theorem RX_bt (hP : PWF P) (hK : CWF P K) (hS : ∀ x, bt S x = true → x < 10) (x : Nat) : bt (RX P K S) x = (bt S x || exb (hop P K S x) 40) := by
  have h10 : (bt S x || exb (hop P K S x) 40) = true → x < 10 := by
    intro h
    rw [Bool.or_eq_true] at h
    rcases h with h | h
    · exact hS x h
    · obtain ⟨n, _, h2⟩ := exb_iff.mp h
      unfold hop at h2
      rw [Bool.and_eq_true] at h2
      exact SS_10 hP hK h2.2
  unfold RX
  by_cases hx : x < 32
  · rw [bt_mkI _ (by omega) hx]
    cases e : (bt S x || exb (hop P K S x) 40) with
    | false => rw [Bool.and_false]
    | true => rw [decide_eq_true (h10 e)]; rfl
  · rw [b_big (by omega)]
    cases e : (bt S x || exb (hop P K S x) 40) with
    | false => rfl
    | true => have := h10 e; omega
theorem RX_10 (hP : PWF P) (hK : CWF P K) (x : Nat) (h : bt (RX P K S) x = true) : x < 10 := by
  unfold RX at h
  rw [bt_mkI _ (by omega) (b32 h), Bool.and_eq_true, decide_eq_true_eq] at h
  exact h.1
theorem RSq_10 (hP : PWF P) (hK : CWF P K) (ho : o < 10) (n : Nat) (x : Nat) (h : bt (RSq P K o n) x = true) : x < 10 := by
  cases n with
  | zero =>
    have h' : bt (jshl 1 (nI o)) x = true := h
    rw [bt_bit (by omega) (b32 h'), decide_eq_true_eq] at h'
    omega
  | succ n => exact RX_10 hP hK x h
theorem RSq_stay (h : RSq P K o (i + 1) = RSq P K o i) : ∀ j, i ≤ j → RSq P K o j = RSq P K o i := by
  intro j
  induction j with
  | zero => intro hj; have : i = 0 := by omega
            rw [this]
  | succ j ih =>
    intro hj
    by_cases e : i = j + 1
    · rw [e]
    · show RX P K (RSq P K o j) = _
      rw [ih (by omega)]; exact h
theorem RSq_up (hP : PWF P) (hK : CWF P K) (ho : o < 10) (h : ∀ j, j < n → RSq P K o (j + 1) ≠ RSq P K o j) : n + 1 ≤ cn (bt (RSq P K o n)) 10 := by
  induction n with
  | zero =>
    have h1 : cn (bt (RSq P K o 0)) 10 ≠ 0 := fun z => by
      have := cn_exb.mp z
      rw [exb_iff.mpr ⟨o, ho, by rw [show RSq P K o 0 = jshl 1 (nI o) from rfl, bt_bit (by omega) (by omega)]; exact decide_eq_true rfl⟩] at this
      cases this
    omega
  | succ n ih =>
    have h1 := ih fun j hj => h j (by omega)
    have sub : ∀ x, bt (RSq P K o n) x = true → bt (RSq P K o (n + 1)) x = true := fun x hx => by
      show bt (RX P K (RSq P K o n)) x = true
      rw [RX_bt hP hK (RSq_10 hP hK ho n), hx]; rfl
    have h2 := cn_sub (p := bt (RSq P K o n)) (q := bt (RSq P K o (n + 1))) (n := 10) fun x _ => sub x
    refine Classical.byContradiction fun q => h n (by omega) ?_
    have h3 := cn_eq (p := bt (RSq P K o n)) (q := bt (RSq P K o (n + 1))) (n := 10) (fun x _ => sub x) (by omega)
    refine b_ext fun x hx => ?_
    by_cases hx10 : x < 10
    · exact (h3 x hx10).symm
    · cases h4 : bt (RSq P K o (n + 1)) x with
      | true => have := RSq_10 hP hK ho _ x h4; omega
      | false =>
        cases h5 : bt (RSq P K o n) x with
        | true => have := RSq_10 hP hK ho _ x h5; omega
        | false => rfl
theorem RSq_end (hP : PWF P) (hK : CWF P K) (ho : o < 10) : RSq P K o 10 = RSq P K o 9 := by
  refine Classical.byContradiction fun q => ?_
  have h := RSq_up (n := 10) hP hK ho fun j hj z => q (by
    have := RSq_stay z
    rw [this 10 (by omega), this 9 (by omega)])
  have := cn_le (bt (RSq P K o 10)) 10
  omega
theorem c_fieldTargets (h : Base p P K c m) : wp (f_X7_fieldTargets c 45 S) (fun r => ∀ x, x < 32 → bt r x = exb (hop P K S x) 40) := by
  unfold f_X7_fieldTargets
  rw [wp_bind]
  refine wp_mono (lp_inv (fun (i : Nat) (s : Int32 × Int32) => s.2 = nI i ∧ ∀ x, x < 32 → bt s.1 x = exb (hop P K S x) (4 * i)) (fun r => ∀ x, x < 32 → bt r x = exb (hop P K S x) 40) 10 ?_ ?_ (by decide) ⟨rfl, fun x _ => b_0 x⟩) (fun r q => by rw [wp_some]; exact q)
  · rintro i ⟨a, b⟩ hi ⟨h1, h2⟩
    dsimp only at h1 h2
    subst h1
    unfold b_X7_fieldTargets_1
    dsimp only
    rw [if_pos (show nI i < (10 : Int32) from (n_lt (b := 10) (by omega) (by omega)).mpr hi), cont_bt (by omega)]
    cases hb : bt S i with
    | false =>
      rw [if_neg (by decide), Option.bind_some, wp_some]
      refine ⟨nI_1 i, fun x hx => ?_⟩
      dsimp only
      rw [h2 x hx, exb_same (n := 4 * i) (m := 4 * (i + 1)) (by omega) fun n n1 n2 => by
        unfold hop
        rw [show n / 4 = i by omega, hb]; rfl]
    | true =>
      rw [if_pos rfl, wp_bind, wp_bind]
      refine wp_mono (lp_inv (fun (f : Nat) (s : Int32 × Int32) => s.2 = nI f ∧ ∀ x, x < 32 → bt s.1 x = exb (hop P K S x) (4 * i + f)) (fun r => ∀ x, x < 32 → bt r x = exb (hop P K S x) (4 * (i + 1))) 4 ?_ ?_ (by decide) ⟨rfl, h2⟩) (fun r q => by rw [wp_some, wp_some]; exact ⟨nI_1 i, q⟩)
      · rintro f ⟨a, b⟩ hf ⟨h1, h2⟩
        dsimp only at h1 h2
        subst h1
        unfold b_X7_fieldTargets_2
        dsimp only
        rw [if_pos (show nI f < (4 : Int32) from (n_lt (b := 4) (by omega) (by omega)).mpr hf), fslot, show rdI zC c (zrf zC 45 0) (nI (16 + 4 * i + f)) = some (SS P K (RR P K) (16 + 4 * i + f)) from c_set h (by omega), Option.bind_some, wp_some]
        refine ⟨nI_1 f, fun x hx => ?_⟩
        dsimp only
        rw [b_or, h2 x hx]
        show _ = (exb (hop P K S x) (4 * i + f) || hop P K S x (4 * i + f))
        unfold hop
        rw [show (4 * i + f) / 4 = i by omega, hb, Bool.true_and, show 16 + (4 * i + f) = 16 + 4 * i + f by omega]
        rfl
      · rintro ⟨a, b⟩ ⟨h1, h2⟩
        dsimp only at h1 h2
        subst h1
        unfold b_X7_fieldTargets_2
        dsimp only
        rw [if_neg (show ¬ nI 4 < (4 : Int32) by decide), wp_some]
        exact h2
  · rintro ⟨a, b⟩ ⟨h1, h2⟩
    dsimp only at h1 h2
    subst h1
    unfold b_X7_fieldTargets_1
    dsimp only
    rw [if_neg (show ¬ nI 10 < (10 : Int32) by decide), wp_some]
    exact h2
theorem m_hops (h : Base p P K c m) (hS : ∀ x, bt S x = true → x < 10) {y : Int32} : lp (b_X10_reachableObjects_2 m 0 (S, y)) NF (S, 0) = some (RX P K S) := by
  have hP := h.2.2.2.2.2.2.1
  have hK := h.2.2.2.2.2.2.2.1
  have hno := hP.2.1
  have hnf := hP.2.2.1
  have fields : rdI zM m (zrf zM 0 12) (0 : Int32) = some (nI (nf P)) := by
    show rdI zM m 4 (nI 0) = _
    rw [rdI_M (show 0 < 2 by omega), h.2.2.2.2.1.2.2.1]
  have far : ∀ x n, (no P ≤ n / 4 ∨ nf P ≤ n % 4) → hop P K S x n = false := fun x n hn => by
    unfold hop
    cases e : bt (LF P K (16 + n)) x with
    | false => rw [Bool.and_false]
    | true =>
      rcases SS_slot hP hK e with q | ⟨a, b, q1, q2, q3⟩
      · have := hP.1; omega
      · omega
  refine wp_is (lp_inv (fun (i : Nat) (s : Int32 × Int32) => s.2 = nI i ∧ ∀ x, x < 32 → bt s.1 x = (bt S x || exb (hop P K S x) (4 * i))) (fun r => r = RX P K S) (no P) ?_ ?_ (by unfold NF; omega) ⟨rfl, fun x _ => (Bool.or_false _).symm⟩)
  · rintro i ⟨a, b⟩ hi ⟨h1, h2⟩
    dsimp only at h1 h2
    subst h1
    unfold b_X10_reachableObjects_2
    dsimp only
    rw [m_objects h.2.2.2.2.1, Option.bind_some, if_pos ((n_lt (by omega) (by omega)).mpr hi), wp_bind]
    refine wp_mono (lp_inv (fun (f : Nat) (s : Int32 × Int32) => s.2 = nI f ∧ ∀ x, x < 32 → bt s.1 x = (bt S x || exb (hop P K S x) (4 * i + f))) (fun r => ∀ x, x < 32 → bt r x = (bt S x || exb (hop P K S x) (4 * (i + 1)))) (nf P) ?_ ?_ (by unfold NF; omega) ⟨rfl, h2⟩) (fun r q => by rw [wp_some]; exact ⟨nI_1 i, q⟩)
    · rintro f ⟨a, b⟩ hf ⟨h1, h2⟩
      dsimp only at h1 h2
      subst h1
      unfold b_X10_reachableObjects_3
      dsimp only
      rw [fields, Option.bind_some, if_pos ((n_lt (by omega) (by omega)).mpr hf), has_bt (by omega), m_fieldIndex, m_set h (by omega), Option.bind_some]
      have e : ∀ x, exb (hop P K S x) (4 * i + (f + 1)) = (exb (hop P K S x) (4 * i + f) || (bt S i && bt (SS P K (RR P K) (16 + 4 * i + f)) x)) := fun x => by
        show (exb (hop P K S x) (4 * i + f) || hop P K S x (4 * i + f)) = _
        unfold hop
        rw [show (4 * i + f) / 4 = i by omega, show 16 + (4 * i + f) = 16 + 4 * i + f by omega]
        rfl
      cases hb : bt S i with
      | false =>
        rw [if_neg (by decide), Option.bind_some, wp_some]
        refine ⟨nI_1 f, fun x hx => ?_⟩
        dsimp only
        rw [or_zero, h2 x hx, e, hb, Bool.false_and, Bool.or_false]
      | true =>
        rw [if_pos rfl, Option.bind_some, wp_some]
        refine ⟨nI_1 f, fun x hx => ?_⟩
        dsimp only
        rw [b_or, h2 x hx, e, hb, Bool.true_and, Bool.or_assoc]
    · rintro ⟨a, b⟩ ⟨h1, h2⟩
      dsimp only at h1 h2
      subst h1
      unfold b_X10_reachableObjects_3
      dsimp only
      rw [fields, Option.bind_some, if_neg (fun z => Nat.lt_irrefl _ ((n_lt (by omega) (by omega)).mp z)), wp_some]
      show ∀ x, _
      intro x hx
      rw [h2 x hx, exb_same (n := 4 * i + nf P) (m := 4 * (i + 1)) (by omega) fun n n1 n2 => far x n (Or.inr (by omega))]
  · rintro ⟨a, b⟩ ⟨h1, h2⟩
    dsimp only at h1 h2
    subst h1
    unfold b_X10_reachableObjects_2
    dsimp only
    rw [m_objects h.2.2.2.2.1, Option.bind_some, if_neg (fun z => Nat.lt_irrefl _ ((n_lt (by omega) (by omega)).mp z)), wp_some]
    refine b_ext fun x hx => ?_
    rw [h2 x hx, RX_bt hP hK hS, exb_same (n := 4 * no P) (m := 40) (by omega) fun n n1 n2 => far x n (Or.inl (by omega))]
theorem q_reachableObjects (h : Base p P K c m) : QS (f_X9_reachableObjects c 0 v) (f_X10_reachableObjects m 0 v) m := by
  have hP := h.2.2.2.2.2.2.1
  have hK := h.2.2.2.2.2.2.2.1
  have hn := hP.2.1
  unfold QS f_X9_reachableObjects f_X10_reachableObjects
  rw [c_isObject h, Option.bind_some, Option.bind_some, m_isObject h.m0, Option.bind_some]
  cases e : inR v (no P) with
  | false => exact ⟨-1, rfl, rfl⟩
  | true =>
    obtain ⟨o, ho, rfl⟩ := inR_t (by omega) e
    have ho10 : o < 10 := by omega
    rw [if_neg (by decide), if_neg (by decide)]
    refine ⟨RSq P K o 9, ?_, ?_⟩
    · refine wp_is ?_
      rw [wp_bind]
      refine wp_mono (lp_inv (fun (i : Nat) (s : Int32 × Int32) => s.2 = nI (i + 1) ∧ s.1 = RSq P K o i) (fun r => r = RSq P K o 9) 9 ?_ ?_ (by decide) ⟨rfl, rfl⟩) (fun r q => by rw [wp_some, q])
      · rintro i ⟨a, b⟩ hi ⟨h1, h2⟩
        dsimp only at h1 h2
        subst h1; subst h2
        unfold b_X9_reachableObjects_1
        dsimp only
        rw [if_pos (show nI (i + 1) < (10 : Int32) from (n_lt (b := 10) (by omega) (by omega)).mpr (by omega)), wp_bind]
        refine wp_mono (c_fieldTargets h) fun r hr => ?_
        rw [wp_some]
        refine ⟨nI_1 _, b_ext fun x hx => ?_⟩
        dsimp only
        rw [b_or, hr x hx]
        exact (RX_bt hP hK (RSq_10 hP hK ho10 i) x).symm
      · rintro ⟨a, b⟩ ⟨h1, h2⟩
        dsimp only at h1 h2
        subst h1; subst h2
        unfold b_X9_reachableObjects_1
        dsimp only
        rw [if_neg (show ¬ nI (9 + 1) < (10 : Int32) by decide), wp_some]
        rfl
    · refine wp_is ?_
      rw [wp_bind]
      have stop : ∀ i, 1 ≤ i → i ≤ 10 → RSq P K o i = RSq P K o (i - 1) → RSq P K o i = RSq P K o 9 := fun i h1 h2 he => by
        obtain ⟨i, rfl⟩ : ∃ k, i = k + 1 := ⟨i - 1, by omega⟩
        rw [he]
        exact (RSq_stay he 9 (by omega)).symm
      refine wp_mono (lp_inv (fun (i : Nat) (s : Int32 × Int32) => s.1 = RSq P K o i ∧ s.2 = (if i = 0 then 0 else RSq P K o (i - 1))) (fun r => r.1 = RSq P K o 9) 10 ?_ ?_ (by decide) ⟨rfl, rfl⟩) (fun r q => by rw [wp_some, q])
      · rintro i ⟨a, b⟩ hi ⟨h1, h2⟩
        dsimp only at h1 h2
        subst h1; subst h2
        unfold b_X10_reachableObjects_1
        dsimp only
        by_cases he : RSq P K o i = (if i = 0 then 0 else RSq P K o (i - 1))
        · rw [if_neg (fun z => z he), wp_some]
          by_cases h0 : i = 0
          · subst h0
            rw [if_pos rfl] at he
            have : bt (RSq P K o 0) o = true := by rw [show RSq P K o 0 = jshl 1 (nI o) from rfl, bt_bit (by omega) (by omega)]; exact decide_eq_true rfl
            rw [he, b_0] at this; cases this
          · rw [if_neg h0] at he
            exact stop i (by omega) (by omega) he
        · rw [if_pos he, m_hops h.m0 (RSq_10 hP hK ho10 i), Option.bind_some, wp_some]
          exact ⟨rfl, by dsimp only; rw [if_neg (by omega)]; rfl⟩
      · rintro ⟨a, b⟩ ⟨h1, h2⟩
        dsimp only at h1 h2
        subst h1; subst h2
        unfold b_X10_reachableObjects_1
        dsimp only
        rw [if_neg (show ¬ ¬ (RSq P K o 10 = if 10 = 0 then 0 else RSq P K o (10 - 1)) from fun z => z (by rw [if_neg (by omega)]; exact RSq_end hP hK ho10)), wp_some]
        exact RSq_end hP hK ho10
end RC
