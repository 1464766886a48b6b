/-! One round of the class's Solution. -/
def cn (p : Nat → Bool) : Nat → Nat
  | 0 => 0
  | n + 1 => cn p n + (if p n = true then 1 else 0)
theorem cn_cong {p q : Nat → Bool} {n : Nat} (h : ∀ i, i < n → p i = q i) : cn p n = cn q n := by
  induction n with
  | zero => rfl
  | succ n ih => rw [cn, cn, ih (fun i hi => h i (by omega)), h n (by omega)]
theorem cn_le (p : Nat → Bool) (n : Nat) : cn p n ≤ n := by
  induction n with
  | zero => exact Nat.le_refl _
  | succ n ih => rw [cn]; split <;> omega
theorem cn_add {p q : Nat → Bool} {n f : Nat} (hf : f < n) (hp : p f = false) (hq : q f = true) (h : ∀ i, i < n → i ≠ f → q i = p i) : cn q n = cn p n + 1 := by
  induction n with
  | zero => omega
  | succ n ih =>
    rw [cn, cn]
    by_cases e : f = n
    · subst e
      rw [hp, hq, cn_cong (fun i hi => h i (by omega) (by omega))]
      simp
    · rw [ih (by omega) (fun i hi hne => h i (by omega) hne), h n (by omega) (by omega)]
      omega
theorem cn_sub {p q : Nat → Bool} {n : Nat} (h : ∀ i, i < n → p i = true → q i = true) : cn p n ≤ cn q n := by
  induction n with
  | zero => exact Nat.le_refl _
  | succ n ih =>
    rw [cn, cn]
    have h1 := ih (fun i hi => h i (by omega))
    by_cases e : p n = true
    · rw [if_pos e, if_pos (h n (by omega) e)]; omega
    · rw [if_neg e]; omega
theorem cn_lt {p q : Nat → Bool} {n f : Nat} (h : ∀ i, i < n → p i = true → q i = true) (hf : f < n) (hp : p f = false) (hq : q f = true) : cn p n < cn q n := by
  induction n with
  | zero => omega
  | succ n ih =>
    rw [cn, cn]
    by_cases e : f = n
    · subst e
      have h1 := cn_sub (p := p) (q := q) (n := f) (fun i hi => h i (by omega))
      rw [hp, hq]; simp; omega
    · have h1 := ih (fun i hi => h i (by omega)) (by omega)
      by_cases e : p n = true
      · rw [if_pos e, if_pos (h n (by omega) e)]; omega
      · rw [if_neg e]; omega
theorem cn_eq {p q : Nat → Bool} {n : Nat} (h : ∀ i, i < n → p i = true → q i = true) (e : cn p n = cn q n) : ∀ i, i < n → p i = q i := by
  intro i hi
  cases hp : p i with
  | true => exact (h i hi hp).symm
  | false =>
    cases hq : q i with
    | false => rfl
    | true => have := cn_lt h hi hp hq; omega
/-- the facts of the sets T, by their numbers -/
def fct (T : Nat → Int32) (f : Nat) : Bool := bt (T (f / 10)) (f % 10)
def cntT (T : Nat → Int32) : Nat := cn (fct T) 560
theorem factOf_n (k o : Nat) : f_X9_factOf (nI k) (nI o) = nI (10 * k + o) := by
  unfold f_X9_factOf
  show nI k * nI 10 + nI o = _
  rw [pk_mul, nI_add]
  congr 1
  omega
/-- a fact is added: with its stamps -/
def wAF (c : Wd) (k o i r : Nat) : Wd := wsI (wsI (wsI (wsI (wsI (wsI (wsI (wsI (wsI c 46 k (c.1 46 k ||| jshl 1 (nI o))) 45 2 (c.1 45 2 + 1)) 45 4 (c.1 45 4 ||| jshl 1 (nI i))) 48 (10 * k + o) (nI r)) 49 (10 * k + o) (nI i)) 50 (10 * k + o) (-1)) 51 (10 * k + o) (-1)) 52 (10 * k + o) 1) 53 (10 * k + o) (jshl 1 (nI i))
theorem s_addFact {c : Wd} {k o i r : Nat} (hk : k < 56) (ho : o < 10) : f_X7_addFact c 45 (nI k) (nI o) (nI i) (nI r) = some (wAF c k o i r) := by
  have hf : 10 * k + o < 560 := by omega
  unfold f_X7_addFact
  rw [factOf_n]
  show Option.bind (rdI zC c 46 (nI k)) _ = _
  rw [rdI_C (show k < zln zC 46 from hk), Option.bind_some]
  show Option.bind (wrI zC c 46 (nI k) _) _ = _
  rw [wrI_C (show k < zln zC 46 from hk), Option.bind_some, Option.bind_some, Option.bind_some]
  show Option.bind (wrI zC _ 48 (nI (10 * k + o)) _) _ = _
  rw [wrI_C (show 10 * k + o < zln zC 48 from hf), Option.bind_some]
  show Option.bind (wrI zC _ 49 (nI (10 * k + o)) _) _ = _
  rw [wrI_C (show 10 * k + o < zln zC 49 from hf), Option.bind_some]
  show Option.bind (wrI zC _ 50 (nI (10 * k + o)) _) _ = _
  rw [wrI_C (show 10 * k + o < zln zC 50 from hf), Option.bind_some]
  show Option.bind (wrI zC _ 51 (nI (10 * k + o)) _) _ = _
  rw [wrI_C (show 10 * k + o < zln zC 51 from hf), Option.bind_some]
  show Option.bind (wrI zC _ 52 (nI (10 * k + o)) _) _ = _
  rw [wrI_C (show 10 * k + o < zln zC 52 from hf), Option.bind_some]
  show Option.bind (wrI zC _ 53 (nI (10 * k + o)) _) _ = _
  rw [wrI_C (show 10 * k + o < zln zC 53 from hf), Option.bind_some]
  rfl
def wDE (c : Wd) (f s sf : Nat) : Wd := wsI (wsI (wsI c 50 f (nI s)) 52 f (c.1 52 f + c.1 52 sf)) 53 f (c.1 53 f ||| c.1 53 sf)
theorem s_derive {c : Wd} {f s sf : Nat} (hf : f < 560) (hs : sf < 560) : f_X7_derive c 45 (nI f) (nI s) (nI sf) = some (wDE c f s sf) := by
  unfold f_X7_derive
  show Option.bind (wrI zC c 50 (nI f) _) _ = _
  rw [wrI_C (show f < zln zC 50 from hf), Option.bind_some]
  show Option.bind (rdI zC _ 52 (nI f)) (fun x => Option.bind (rdI zC _ 52 (nI sf)) _) = _
  rw [rdI_C (show f < zln zC 52 from hf), Option.bind_some, rdI_C (show sf < zln zC 52 from hs), Option.bind_some]
  show Option.bind (wrI zC _ 52 (nI f) _) _ = _
  rw [wrI_C (show f < zln zC 52 from hf), Option.bind_some]
  show Option.bind (rdI zC _ 53 (nI f)) (fun x => Option.bind (rdI zC _ 53 (nI sf)) _) = _
  rw [rdI_C (show f < zln zC 53 from hf), Option.bind_some, rdI_C (show sf < zln zC 53 from hs), Option.bind_some]
  show Option.bind (wrI zC _ 53 (nI f) _) _ = _
  rw [wrI_C (show f < zln zC 53 from hf), Option.bind_some]
  rfl
def wSU (c : Wd) (f v vf : Nat) : Wd := wsI (wsI c 51 f (nI v)) 53 f (c.1 53 f ||| c.1 53 vf)
theorem s_supply {c : Wd} {f v vf : Nat} (hf : f < 560) (hs : vf < 560) : f_X7_supply c 45 (nI f) (nI v) (nI vf) = some (wSU c f v vf) := by
  unfold f_X7_supply
  show Option.bind (wrI zC c 51 (nI f) _) _ = _
  rw [wrI_C (show f < zln zC 51 from hf), Option.bind_some]
  show Option.bind (rdI zC _ 53 (nI f)) (fun x => Option.bind (rdI zC _ 53 (nI vf)) _) = _
  rw [rdI_C (show f < zln zC 53 from hf), Option.bind_some, rdI_C (show vf < zln zC 53 from hs), Option.bind_some]
  show Option.bind (wrI zC _ 53 (nI f) _) _ = _
  rw [wrI_C (show f < zln zC 53 from hf), Option.bind_some]
  rfl
/-- what a new fact (k, o) brings: stamps S (source), V (via), N (length), F (proof) -/
def StepTo (c c2 : Wd) (k o i r : Nat) (S V N F : Int32) : Prop :=
  c2.1 46 = upd (c.1 46) k (c.1 46 k ||| jshl 1 (nI o)) ∧ c2.1 45 = upd (upd (c.1 45) 2 (c.1 45 2 + 1)) 4 (c.1 45 4 ||| jshl 1 (nI i)) ∧
  c2.1 48 = upd (c.1 48) (10 * k + o) (nI r) ∧ c2.1 49 = upd (c.1 49) (10 * k + o) (nI i) ∧ c2.1 50 = upd (c.1 50) (10 * k + o) S ∧ c2.1 51 = upd (c.1 51) (10 * k + o) V ∧ c2.1 52 = upd (c.1 52) (10 * k + o) N ∧ c2.1 53 = upd (c.1 53) (10 * k + o) F ∧
  (∀ q, q ≠ 45 → q ≠ 46 → ¬ (48 ≤ q ∧ q ≤ 53) → c2.1 q = c.1 q) ∧ c2.2 = c.2
theorem wAF_other {c : Wd} {k o i r q : Nat} (h1 : q ≠ 45) (h2 : q ≠ 46) (h3 : ¬ (48 ≤ q ∧ q ≤ 53)) : (wAF c k o i r).1 q = c.1 q := by
  unfold wAF
  rw [wsI_o _ _ _ (by omega), wsI_o _ _ _ (by omega), wsI_o _ _ _ (by omega), wsI_o _ _ _ (by omega), wsI_o _ _ _ (by omega), wsI_o _ _ _ (by omega), wsI_o _ _ _ (by omega), wsI_o _ _ _ (by omega), wsI_o _ _ _ (by omega)]
theorem upd_upd (f : Nat → Int32) (k : Nat) (x y : Int32) : upd (upd f k x) k y = upd f k y := by
  funext j
  by_cases h : j = k
  · subst h; rw [upd_s, upd_s]
  · rw [upd_o h, upd_o h, upd_o h]
theorem step_new {c : Wd} {k o i r : Nat} : StepTo c (wAF c k o i r) k o i r (-1) (-1) 1 (jshl 1 (nI i)) :=
  ⟨rfl, rfl, rfl, rfl, rfl, rfl, rfl, rfl, fun _ h1 h2 h3 => wAF_other h1 h2 h3, rfl⟩
theorem step_copy {c : Wd} {k o i r s : Nat} (h : 10 * s + o ≠ 10 * k + o) : StepTo c (wDE (wAF c k o i r) (10 * k + o) s (10 * s + o)) k o i r (nI s) (-1) (1 + c.1 52 (10 * s + o)) (jshl 1 (nI i) ||| c.1 53 (10 * s + o)) := by
  refine ⟨rfl, rfl, rfl, rfl, ?_, rfl, ?_, ?_, fun q h1 h2 h3 => ?_, rfl⟩
  · show upd (upd (c.1 50) _ _) _ _ = _
    rw [upd_upd]
  · show upd (upd (c.1 52) _ _) _ (upd (c.1 52) (10 * k + o) 1 (10 * k + o) + upd (c.1 52) (10 * k + o) 1 (10 * s + o)) = _
    rw [upd_upd, upd_s, upd_o h]
  · show upd (upd (c.1 53) _ _) _ (upd (c.1 53) (10 * k + o) _ (10 * k + o) ||| upd (c.1 53) (10 * k + o) _ (10 * s + o)) = _
    rw [upd_upd, upd_s, upd_o h]
  · unfold wDE
    rw [wsI_o _ _ _ (by omega), wsI_o _ _ _ (by omega), wsI_o _ _ _ (by omega), wAF_other h1 h2 h3]
theorem step_via {c : Wd} {k o i r s v vs : Nat} (h : 10 * s + o ≠ 10 * k + o) (h' : 10 * vs + v ≠ 10 * k + o) : StepTo c (wSU (wDE (wAF c k o i r) (10 * k + o) s (10 * s + o)) (10 * k + o) v (10 * vs + v)) k o i r (nI s) (nI v) (1 + c.1 52 (10 * s + o)) ((jshl 1 (nI i) ||| c.1 53 (10 * s + o)) ||| c.1 53 (10 * vs + v)) := by
  obtain ⟨a1, a2, a3, a4, a5, a6, a7, a8, a9, a10⟩ := step_copy (c := c) (i := i) (r := r) h
  refine ⟨a1, a2, a3, a4, a5, ?_, a7, ?_, fun q h1 h2 h3 => ?_, a10⟩
  · show upd ((wDE (wAF c k o i r) (10 * k + o) s (10 * s + o)).1 51) _ _ = _
    rw [a6, upd_upd]
  · show upd ((wDE (wAF c k o i r) (10 * k + o) s (10 * s + o)).1 53) _ ((wDE (wAF c k o i r) (10 * k + o) s (10 * s + o)).1 53 _ ||| (wDE (wAF c k o i r) (10 * k + o) s (10 * s + o)).1 53 _) = _
    rw [a8, upd_upd, upd_s, upd_o h']
  · unfold wSU
    rw [wsI_o _ _ _ (by omega), wsI_o _ _ _ (by omega), a9 q h1 h2 h3]
