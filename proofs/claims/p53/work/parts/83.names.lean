/-! Names: a word is (how many letters, its letters as bytes); the class packs eight bits a letter, the reference five. -/
abbrev Wrd : Type := Nat × (Nat → Nat)
def cwd (t : Nat → Nat) : Nat → Nat
  | 0 => 0
  | n + 1 => 256 * cwd t n + t n
def mwd (t : Nat → Nat) : Nat → Nat
  | 0 => 0
  | n + 1 => 32 * mwd t n + (t n - 96)
def WOK (w : Wrd) : Prop := w.1 ≤ 6 ∧ ∀ i, i < w.1 → 97 ≤ w.2 i ∧ w.2 i ≤ 122
theorem cwd_lt {t : Nat → Nat} {n : Nat} (h : ∀ i, i < n → 97 ≤ t i ∧ t i ≤ 122) : cwd t n < 256 ^ n := by
  induction n with
  | zero => exact Nat.one_pos
  | succ n ih =>
    have := ih fun i hi => h i (by omega)
    have := h n (by omega)
    rw [cwd, Nat.pow_succ]
    omega
theorem mwd_lt {t : Nat → Nat} {n : Nat} (h : ∀ i, i < n → 97 ≤ t i ∧ t i ≤ 122) : mwd t n < 32 ^ n := by
  induction n with
  | zero => exact Nat.one_pos
  | succ n ih =>
    have := ih fun i hi => h i (by omega)
    have := h n (by omega)
    rw [mwd, Nat.pow_succ]
    omega
theorem p256 {n : Nat} (h : n ≤ 6) : 256 ^ n ≤ 281474976710656 := Nat.pow_le_pow_right (n := 256) (by decide) h
theorem p32 {n : Nat} (h : n ≤ 6) : 32 ^ n ≤ 1073741824 := Nat.pow_le_pow_right (n := 32) (by decide) h
theorem WOK.c {w : Wrd} (h : WOK w) : cwd w.2 w.1 < 281474976710656 := Nat.lt_of_lt_of_le (cwd_lt h.2) (p256 h.1)
theorem WOK.m {w : Wrd} (h : WOK w) : mwd w.2 w.1 < 1073741824 := Nat.lt_of_lt_of_le (mwd_lt h.2) (p32 h.1)
/-- equal for the class is equal for the reference -/
theorem wd_same {t t' : Nat → Nat} : ∀ {n n' : Nat}, (∀ i, i < n → 97 ≤ t i ∧ t i ≤ 122) → (∀ i, i < n' → 97 ≤ t' i ∧ t' i ≤ 122) → (cwd t n = cwd t' n' ↔ mwd t n = mwd t' n') := by
  intro n
  induction n with
  | zero =>
    intro n' h h'
    cases n' with
    | zero => exact ⟨fun _ => rfl, fun _ => rfl⟩
    | succ n' =>
      have := h' n' (by omega)
      exact ⟨fun z => by rw [cwd, cwd] at z; omega, fun z => by rw [mwd, mwd] at z; omega⟩
  | succ n ih =>
    intro n' h h'
    have hn := h n (by omega)
    cases n' with
    | zero => exact ⟨fun z => by rw [cwd, cwd] at z; omega, fun z => by rw [mwd, mwd] at z; omega⟩
    | succ n' =>
      have hn' := h' n' (by omega)
      have e := ih (n' := n') (fun i hi => h i (by omega)) (fun i hi => h' i (by omega))
      rw [cwd, cwd, mwd, mwd]
      constructor
      · intro z
        have z1 : cwd t n = cwd t' n' := by omega
        have z2 : t n = t' n' := by omega
        rw [e.mp z1, z2]
      · intro z
        have z1 : mwd t n = mwd t' n' := by omega
        have z2 : t n = t' n' := by omega
        rw [e.mpr z1, z2]
theorem cwd_dig {t : Nat → Nat} : ∀ {n l : Nat}, (∀ i, i < n → 97 ≤ t i ∧ t i ≤ 122) → cwd t n / 256 ^ l % 256 = if l < n then t (n - 1 - l) else 0 := by
  intro n
  induction n with
  | zero => intro l _; rw [cwd, Nat.zero_div, if_neg (by omega)]
  | succ n ih =>
    intro l h
    have hn := h n (by omega)
    cases l with
    | zero =>
      rw [cwd, Nat.pow_zero, Nat.div_one, if_pos (by omega), show n + 1 - 1 - 0 = n by omega]
      omega
    | succ l =>
      rw [cwd, Nat.pow_succ, Nat.mul_comm (256 ^ l), ← Nat.div_div_eq_div_mul, show (256 * cwd t n + t n) / 256 = cwd t n by omega, ih fun i hi => h i (by omega)]
      by_cases q : l < n
      · rw [if_pos q, if_pos (by omega), show n + 1 - 1 - (l + 1) = n - 1 - l by omega]
      · rw [if_neg q, if_neg (by omega)]
theorem mwd_dig {t : Nat → Nat} : ∀ {n l : Nat}, (∀ i, i < n → 97 ≤ t i ∧ t i ≤ 122) → mwd t n / 32 ^ l % 32 = if l < n then t (n - 1 - l) - 96 else 0 := by
  intro n
  induction n with
  | zero => intro l _; rw [mwd, Nat.zero_div, if_neg (by omega)]
  | succ n ih =>
    intro l h
    have hn := h n (by omega)
    cases l with
    | zero =>
      rw [mwd, Nat.pow_zero, Nat.div_one, if_pos (by omega), show n + 1 - 1 - 0 = n by omega]
      omega
    | succ l =>
      rw [mwd, Nat.pow_succ, Nat.mul_comm (32 ^ l), ← Nat.div_div_eq_div_mul, show (32 * mwd t n + (t n - 96)) / 32 = mwd t n by omega, ih fun i hi => h i (by omega)]
      by_cases q : l < n
      · rw [if_pos q, if_pos (by omega), show n + 1 - 1 - (l + 1) = n - 1 - l by omega]
      · rw [if_neg q, if_neg (by omega)]
theorem lN_inj {a b : Nat} (ha : a < 2 ^ 63) (hb : b < 2 ^ 63) (h : lN a = lN b) : a = b := by
  have h2 : (lN a).toBitVec.toNat = (lN b).toBitVec.toNat := by rw [h]
  rwa [wb_tn (by omega), wb_tn (by omega)] at h2
/-- names of class and reference -/
def cN (w : Wrd) : Int64 := lN (cwd w.2 w.1)
def mN (w : Wrd) : Int64 := lN (mwd w.2 w.1)
theorem name_eq {w w' : Wrd} (h : WOK w) (h' : WOK w') : cN w = cN w' ↔ mN w = mN w' := by
  have e := wd_same (n := w.1) (n' := w'.1) h.2 h'.2
  have h1 := h.c
  have h2 := h.m
  have h3 := h'.c
  have h4 := h'.m
  unfold cN mN
  exact ⟨fun z => congrArg lN (e.mp (lN_inj (by omega) (by omega) z)), fun z => congrArg lN (e.mpr (lN_inj (by omega) (by omega) z))⟩
/-! a name's letters one by one -/
def nmL (w : Wrd) : List Nat := (List.range w.1).map w.2
theorem nmL_len (w : Wrd) : (nmL w).length = w.1 := by unfold nmL; simp
/-- text that stands in an array -/
def TXt (f : Nat → Int32) (l : List Nat) : Prop := ∀ j, j < l.length → f j = nI (l.getD j 0)
theorem TXt.push {f : Nat → Int32} {l : List Nat} (h : TXt f l) (b : Nat) : TXt (upd f l.length (nI b)) (l ++ [b]) := by
  intro j hj
  rw [List.length_append] at hj
  by_cases e : j = l.length
  · subst e
    rw [upd_s]
    simp [List.getD_eq_getElem?_getD]
  · have hj2 : j < l.length := by
      have : [b].length = 1 := rfl
      omega
    rw [upd_o e, h j hj2]
    simp [List.getD_eq_getElem?_getD, List.getElem?_append_left hj2]
