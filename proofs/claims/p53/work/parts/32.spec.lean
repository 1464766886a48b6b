/-! What solving is: positions (constraint, via object, flow) in the order of the derivations, rounds, first derivations. -/
def exb (p : Nat → Bool) : Nat → Bool
  | 0 => false
  | n + 1 => exb p n || p n
def fstb (p : Nat → Bool) : Nat → Nat
  | 0 => 0
  | n + 1 => if exb p n = true then fstb p n else n
theorem exb_iff {p : Nat → Bool} {n : Nat} : exb p n = true ↔ ∃ i, i < n ∧ p i = true := by
  induction n with
  | zero => exact ⟨fun h => (by cases h), fun ⟨i, h, _⟩ => (by omega)⟩
  | succ n ih =>
    rw [exb, Bool.or_eq_true, ih]
    constructor
    · rintro (⟨i, h, q⟩ | h)
      · exact ⟨i, by omega, q⟩
      · exact ⟨n, by omega, h⟩
    · rintro ⟨i, h, q⟩
      by_cases e : i = n
      · subst e; exact Or.inr q
      · exact Or.inl ⟨i, by omega, q⟩
theorem exb_mono {p : Nat → Bool} {n m : Nat} (h : n ≤ m) (q : exb p n = true) : exb p m = true := by
  obtain ⟨i, h1, h2⟩ := exb_iff.mp q
  exact exb_iff.mpr ⟨i, by omega, h2⟩
theorem exb_same {p : Nat → Bool} {n m : Nat} (h : n ≤ m) (q : ∀ i, n ≤ i → i < m → p i = false) : exb p m = exb p n := by
  cases e : exb p n with
  | true => exact exb_mono h e
  | false =>
    cases e2 : exb p m with
    | false => rfl
    | true =>
      obtain ⟨i, h1, h2⟩ := exb_iff.mp e2
      by_cases hi : i < n
      · rw [exb_iff.mpr ⟨i, hi, h2⟩] at e; cases e
      · rw [q i (by omega) h1] at h2; cases h2
theorem fstb_ok {p : Nat → Bool} {n : Nat} (h : exb p n = true) : fstb p n < n ∧ p (fstb p n) = true ∧ ∀ j, j < fstb p n → p j = false := by
  induction n with
  | zero => cases h
  | succ n ih =>
    rw [fstb]
    by_cases e : exb p n = true
    · rw [if_pos e]
      obtain ⟨a, b, c⟩ := ih e
      exact ⟨by omega, b, c⟩
    · rw [if_neg e]
      rw [exb, Bool.or_eq_true] at h
      refine ⟨by omega, h.resolve_left e, fun j hj => ?_⟩
      cases hp : p j with
      | false => rfl
      | true => exact absurd (exb_iff.mpr ⟨j, hj, hp⟩) e
theorem fstb_same {p : Nat → Bool} {n m : Nat} (h : n ≤ m) (q : exb p n = true) : fstb p m = fstb p n := by
  induction m with
  | zero => have : n = 0 := by omega
            subst this; rfl
  | succ m ih =>
    by_cases e : n = m + 1
    · subst e; rfl
    · rw [fstb, if_pos (exb_mono (by omega) q), ih (by omega)]
theorem fstb_uniq {p : Nat → Bool} {n i : Nat} (hi : i < n) (h : p i = true) (q : ∀ j, j < i → p j = false) : fstb p n = i := by
  obtain ⟨a, b, c⟩ := fstb_ok (exb_iff.mpr ⟨i, hi, h⟩)
  rcases Nat.lt_trichotomy (fstb p n) i with l | l | l
  · rw [q _ l] at b; cases b
  · exact l
  · rw [c _ l] at h; cases h
theorem fstb_cong {p q : Nat → Bool} {n : Nat} (h : ∀ i, i < n → p i = q i) : fstb p n = fstb q n ∧ exb p n = exb q n := by
  induction n with
  | zero => exact ⟨rfl, rfl⟩
  | succ n ih =>
    obtain ⟨a, b⟩ := ih (fun i hi => h i (by omega))
    rw [fstb, fstb, exb, exb, a, b, h n (by omega)]
    exact ⟨rfl, rfl⟩
/-- an Int32 out of its bits -/
def mkI (p : Nat → Bool) : Nat → Int32
  | 0 => 0
  | n + 1 => mkI p n ||| (if p n = true then jshl 1 (nI n) else 0)
theorem bt_mkI (p : Nat → Bool) {n : Nat} (hn : n ≤ 32) {j : Nat} (hj : j < 32) : bt (mkI p n) j = (decide (j < n) && p j) := by
  induction n with
  | zero => rw [mkI, b_0]; rfl
  | succ n ih =>
    rw [mkI, b_or, ih (by omega)]
    by_cases h : p n = true
    · rw [if_pos h, bt_bit (by omega) hj]
      by_cases e : j = n
      · subst e; rw [h]; simp
      · rw [decide_eq_false e, Bool.or_false]
        congr 1
        exact decide_eq_decide.mpr (by omega)
    · rw [if_neg h, b_0, Bool.or_false]
      by_cases e : j = n
      · subst e
        have : p j = false := by cases hp : p j; rfl; exact absurd hp h
        rw [this, Bool.and_false, Bool.and_false]
      · congr 1
        exact decide_eq_decide.mpr (by omega)
/-- position n: constraint n / 20, via object n % 20 / 2, flow n % 2; does it add object o to slot k out of the sets B? -/
def dvn (P : PK) (K : CK) (B : Nat → Int32) (k o n : Nat) : Bool :=
  decide (n / 20 < nc K) && bt (en K) (n / 20) && (if kd K (n / 20) = 0 then decide (n % 20 = 0 ∧ ka K (n / 20) = k ∧ kb K (n / 20) = o) else
    decide (n % 2 < fcn K (n / 20)) && bt (vset P K B (n / 20)) (n % 20 / 2) && decide (ftg P K (n / 20) (n % 20 / 2) (n % 2) = k) && bt (B (fsr P K (n / 20) (n % 20 / 2) (n % 2))) o)
def exn (P : PK) (K : CK) (B : Nat → Int32) (n k o : Nat) : Bool := exb (dvn P K B k o) n
def nextT (P : PK) (K : CK) (B : Nat → Int32) : Nat → Int32 := fun k => mkI (fun o => bt (B k) o || exn P K B 600 k o) 10
def SS (P : PK) (K : CK) : Nat → Nat → Int32
  | 0 => fun _ => 0
  | r + 1 => nextT P K (SS P K r)
theorem pos_d {i v fl : Nat} (hv : v < 10) (hf : fl < 2) : (20 * i + 2 * v + fl) / 20 = i ∧ (20 * i + 2 * v + fl) % 20 / 2 = v ∧ (20 * i + 2 * v + fl) % 2 = fl := by omega
theorem dvn_flow {P : PK} {K : CK} {B : Nat → Int32} {k o i v fl : Nat} (hv : v < 10) (hf : fl < 2) (hi : i < nc K) (he : bt (en K) i = true) (hk : kd K i ≠ 0) :
    dvn P K B k o (20 * i + 2 * v + fl) = (decide (fl < fcn K i) && bt (vset P K B i) v && decide (ftg P K i v fl = k) && bt (B (fsr P K i v fl)) o) := by
  obtain ⟨a, b, c⟩ := pos_d (i := i) hv hf
  unfold dvn
  rw [a, b, c, decide_eq_true hi, he, if_neg hk]
  rfl
theorem dvn_new {P : PK} {K : CK} {B : Nat → Int32} {k o i : Nat} (hi : i < nc K) (he : bt (en K) i = true) (hk : kd K i = 0) :
    dvn P K B k o (20 * i) = decide (ka K i = k ∧ kb K i = o) := by
  have a : 20 * i / 20 = i := by omega
  have b : 20 * i % 20 = 0 := by omega
  unfold dvn
  rw [a, b, decide_eq_true hi, he, if_pos hk]
  simp
theorem dvn_new0 {P : PK} {K : CK} {B : Nat → Int32} {k o i n : Nat} (h1 : 20 * i < n) (h2 : n < 20 * (i + 1)) (hk : kd K i = 0) : dvn P K B k o n = false := by
  have a : n / 20 = i := by omega
  have b : n % 20 ≠ 0 := by omega
  unfold dvn
  rw [a, if_pos hk]
  simp [b]
theorem dvn_off {P : PK} {K : CK} {B : Nat → Int32} {k o i n : Nat} (h1 : 20 * i ≤ n) (h2 : n < 20 * (i + 1)) (he : bt (en K) i = false) : dvn P K B k o n = false := by
  have a : n / 20 = i := by omega
  unfold dvn
  rw [a, he]
  simp
theorem dvn_far {P : PK} {K : CK} {B : Nat → Int32} {k o n : Nat} (h : 20 * nc K ≤ n) : dvn P K B k o n = false := by
  unfold dvn
  rw [decide_eq_false (by omega)]
  rfl
/-- what stands in the sets is an object -/
def TOK (P : PK) (T : Nat → Int32) : Prop := ∀ k o, bt (T k) o = true → k < 56 ∧ o < no P
theorem vset_lt {P : PK} {K : CK} {T : Nat → Int32} {i v : Nat} (hP : PWF P) (hT : TOK P T) (h : bt (vset P K T i) v = true) : v < 10 ∧ (kd K i ≠ 1 → v < no P) ∧ (kd K i = 1 → v = 0) ∧ (kd K i = 4 → bt (fs P) v = true) ∧ kd K i ≠ 0 ∧ kd K i ≤ 4 := by
  have hno := hP.2.1
  unfold vset at h
  by_cases h1 : kd K i = 1
  · rw [if_pos h1] at h
    have hv : v = 0 := by
      by_cases hv : v < 32
      · by_cases e : v = 0
        · exact e
        · rw [(by decide +kernel : ∀ i, i < 32 → i ≠ 0 → bt 1 i = false) v hv e] at h; cases h
      · rw [b_big (by omega)] at h; cases h
    exact ⟨by omega, fun q => absurd h1 q, fun _ => hv, fun q => by omega, by omega, by omega⟩
  · rw [if_neg h1] at h
    by_cases h2 : kd K i = 2
    · rw [if_pos h2] at h
      have := (hT _ _ h).2
      exact ⟨by omega, fun _ => this, fun q => absurd q h1, fun q => by omega, by omega, by omega⟩
    · rw [if_neg h2] at h
      by_cases h3 : kd K i = 3
      · rw [if_pos h3] at h
        have := (hT _ _ h).2
        exact ⟨by omega, fun _ => this, fun q => absurd q h1, fun q => by omega, by omega, by omega⟩
      · rw [if_neg h3] at h
        by_cases h4 : kd K i = 4
        · rw [if_pos h4, b_and, Bool.and_eq_true] at h
          have := (hT _ _ h.1).2
          exact ⟨by omega, fun _ => this, fun q => absurd q h1, fun _ => h.2, by omega, by omega⟩
        · rw [if_neg h4, b_0] at h; cases h
theorem dvn_ok {P : PK} {K : CK} {B : Nat → Int32} {k o n : Nat} (hP : PWF P) (hK : CWF P K) (hB : TOK P B) (h : dvn P K B k o n = true) : k < 56 ∧ o < no P ∧ n < 20 * nc K := by
  unfold dvn at h
  simp only [Bool.and_eq_true, decide_eq_true_eq] at h
  obtain ⟨⟨hi, he⟩, h⟩ := h
  obtain ⟨g0, g1, g2, g3, g4, g5, g6⟩ := hK.2.2 _ hi
  have hnv := hP.1
  by_cases hk : kd K (n / 20) = 0
  · rw [if_pos hk] at h
    simp only [decide_eq_true_eq] at h
    have := g2 hk
    exact ⟨by omega, by omega, by omega⟩
  · rw [if_neg hk] at h
    simp only [Bool.and_eq_true, decide_eq_true_eq] at h
    obtain ⟨⟨⟨h1, h2⟩, h3⟩, h4⟩ := h
    have hv := vset_lt hP hB h2
    have ht := ftg_lt (fl := n % 2) hP hK hi hv.1 hv.2.2.2.1
    exact ⟨by omega, (hB _ _ h4).2, by omega⟩
theorem nextT_bt {P : PK} {K : CK} {B : Nat → Int32} (hP : PWF P) (hK : CWF P K) (hB : TOK P B) (k o : Nat) : bt (nextT P K B k) o = (bt (B k) o || exn P K B 600 k o) := by
  have key : (bt (B k) o || exn P K B 600 k o) = true → o < 10 := by
    intro h
    have hno := hP.2.1
    rcases Bool.or_eq_true _ _ |>.mp h with h | h
    · have := (hB _ _ h).2; omega
    · obtain ⟨n, _, h2⟩ := exb_iff.mp h
      have := (dvn_ok hP hK hB h2).2.1; omega
  unfold nextT
  by_cases ho : o < 32
  · rw [bt_mkI _ (by omega) ho]
    cases e : (bt (B k) o || exn P K B 600 k o) with
    | false => rw [Bool.and_false]
    | true => rw [decide_eq_true (key e)]; rfl
  · rw [b_big (by omega)]
    cases e : (bt (B k) o || exn P K B 600 k o) with
    | false => rfl
    | true => have := key e; omega
theorem nextT_ok {P : PK} {K : CK} {B : Nat → Int32} (hP : PWF P) (hK : CWF P K) (hB : TOK P B) : TOK P (nextT P K B) := by
  intro k o h
  rw [nextT_bt hP hK hB, Bool.or_eq_true] at h
  rcases h with h | h
  · exact hB _ _ h
  · obtain ⟨n, _, h2⟩ := exb_iff.mp h
    exact ⟨(dvn_ok hP hK hB h2).1, (dvn_ok hP hK hB h2).2.1⟩
theorem SS_ok {P : PK} {K : CK} (hP : PWF P) (hK : CWF P K) (r : Nat) : TOK P (SS P K r) := by
  induction r with
  | zero => intro k o h; rw [show SS P K 0 k = 0 from rfl, b_0] at h; cases h
  | succ r ih => exact nextT_ok hP hK ih
theorem SS_bt {P : PK} {K : CK} (hP : PWF P) (hK : CWF P K) (r k o : Nat) : bt (SS P K (r + 1) k) o = (bt (SS P K r k) o || exn P K (SS P K r) 600 k o) := nextT_bt hP hK (SS_ok hP hK r) k o
theorem SS_mono {P : PK} {K : CK} (hP : PWF P) (hK : CWF P K) {r q : Nat} (h : r ≤ q) {k o : Nat} (e : bt (SS P K r k) o = true) : bt (SS P K q k) o = true := by
  induction q with
  | zero => have : r = 0 := by omega
            subst this; exact e
  | succ q ih =>
    by_cases e2 : r = q + 1
    · subst e2; exact e
    · rw [SS_bt hP hK, ih (by omega)]; rfl
