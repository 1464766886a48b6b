/-! The first family of the kit's BITS (Int32 by its bits), pasted. -/
def bt (x : Int32) (i : Nat) : Bool := x.toBitVec.getLsbD i
theorem b_ext {x y : Int32} (h : ∀ i, i < 32 → bt x i = bt y i) : x = y := Int32.toBitVec_inj.mp (BitVec.eq_of_getLsbD_eq (fun i hi => h i hi))
theorem b_or (x y : Int32) (i : Nat) : bt (x ||| y) i = (bt x i || bt y i) := by unfold bt; rw [Int32.toBitVec_or, BitVec.getLsbD_or]
theorem b_and (x y : Int32) (i : Nat) : bt (x &&& y) i = (bt x i && bt y i) := by unfold bt; rw [Int32.toBitVec_and, BitVec.getLsbD_and]
theorem b_xor (x y : Int32) (i : Nat) : bt (x ^^^ y) i = (bt x i ^^ bt y i) := by unfold bt; rw [Int32.toBitVec_xor, BitVec.getLsbD_xor]
theorem b_big {x : Int32} {i : Nat} (h : 32 ≤ i) : bt x i = false := BitVec.getLsbD_of_ge _ _ h
theorem b_255 (i : Nat) : bt 255 i = decide (i < 8) := by
  rcases Nat.lt_or_ge i 32 with h | h
  · exact (by decide +kernel : ∀ i, i < 32 → bt 255 i = decide (i < 8)) i h
  · rw [b_big h, decide_eq_false (by omega)]
theorem b_65535 (i : Nat) : bt 65535 i = decide (i < 16) := by
  rcases Nat.lt_or_ge i 32 with h | h
  · exact (by decide +kernel : ∀ i, i < 32 → bt 65535 i = decide (i < 16)) i h
  · rw [b_big h, decide_eq_false (by omega)]
theorem b_m1 : ∀ i, i < 32 → bt (-1) i = true := by decide +kernel
theorem b_0 (i : Nat) : bt 0 i = false := BitVec.getLsbD_zero
theorem s_l : ∀ n, n < 32 → ((nI n &&& 31).toBitVec.smod 32).toNat = n := by decide +kernel
theorem s_u : ∀ n, n < 32 → (((nI n).toUInt32 &&& Int32.toUInt32 31).toBitVec % 32).toNat = n := by decide +kernel
theorem b_shl (n : Nat) (hn : n < 32) (x : Int32) {i : Nat} (hi : i < 32) : bt (x <<< (nI n &&& 31)) i = (decide (n ≤ i) && bt x (i - n)) := by
  unfold bt
  rw [Int32.toBitVec_shiftLeft]
  show (x.toBitVec <<< ((nI n &&& 31).toBitVec.smod 32).toNat).getLsbD i = _
  rw [s_l n hn, BitVec.getLsbD_shiftLeft]
  rcases Nat.lt_or_ge i n with h | h
  · simp [h, Nat.not_le.mpr h]
  · simp [hi, h, Nat.not_lt.mpr h]
theorem b_ushr (n : Nat) (hn : n < 32) (x : Int32) (i : Nat) : bt ((x.toUInt32 >>> ((nI n).toUInt32 &&& Int32.toUInt32 31)).toInt32) i = bt x (n + i) := by
  show (x.toUInt32 >>> ((nI n).toUInt32 &&& Int32.toUInt32 31)).toBitVec.getLsbD i = x.toUInt32.toBitVec.getLsbD (n + i)
  rw [UInt32.toBitVec_shiftRight]
  show (x.toUInt32.toBitVec >>> (((nI n).toUInt32 &&& Int32.toUInt32 31).toBitVec % 32).toNat).getLsbD i = _
  rw [s_u n hn, BitVec.getLsbD_ushiftRight]
theorem b_sshr (n : Nat) (hn : n < 32) (x : Int32) {i : Nat} (hi : i < 32) : bt (x >>> (nI n &&& 31)) i = if n + i < 32 then bt x (n + i) else bt x 31 := by
  unfold bt
  rw [Int32.toBitVec_shiftRight]
  show (x.toBitVec.sshiftRight ((nI n &&& 31).toBitVec.smod 32).toNat).getLsbD i = _
  rw [s_l n hn, BitVec.getLsbD_sshiftRight, BitVec.msb_eq_getLsbD_last]
  simp [hi]
theorem b_shl8 (x : Int32) {i : Nat} (hi : i < 32) : bt (x <<< ((8 : Int32) &&& 31)) i = (decide (8 ≤ i) && bt x (i - 8)) := b_shl 8 (by omega) x hi
theorem b_shl16 (x : Int32) {i : Nat} (hi : i < 32) : bt (x <<< ((16 : Int32) &&& 31)) i = (decide (16 ≤ i) && bt x (i - 16)) := b_shl 16 (by omega) x hi
theorem b_shl24 (x : Int32) {i : Nat} (hi : i < 32) : bt (x <<< ((24 : Int32) &&& 31)) i = (decide (24 ≤ i) && bt x (i - 24)) := b_shl 24 (by omega) x hi
theorem b_sshr8 (x : Int32) {i : Nat} (hi : i < 32) : bt (x >>> ((8 : Int32) &&& 31)) i = if 8 + i < 32 then bt x (8 + i) else bt x 31 := b_sshr 8 (by omega) x hi

/-! What a partial function comes to. -/
def wp {α : Type} (e : Option α) (Q : α → Prop) : Prop := ∃ a, e = some a ∧ Q a
theorem wp_bind {α β : Type} {e : Option α} {f : α → Option β} {Q : β → Prop} : wp (Option.bind e f) Q ↔ wp e (fun a => wp (f a) Q) := by
  constructor
  · rintro ⟨b, h, q⟩
    obtain ⟨a, h1, h2⟩ := ob h
    exact ⟨a, h1, b, h2, q⟩
  · rintro ⟨a, h1, b, h2, q⟩
    exact ⟨b, by rw [h1]; exact h2, q⟩
theorem wp_some {α : Type} {a : α} {Q : α → Prop} : wp (some a) Q ↔ Q a := ⟨fun ⟨_, h, q⟩ => (Option.some.inj h) ▸ q, fun q => ⟨a, rfl, q⟩⟩
theorem wp_ite {α : Type} {c : Prop} [Decidable c] {A B : Option α} {Q : α → Prop} : wp (if c then A else B) Q ↔ (c → wp A Q) ∧ (¬ c → wp B Q) := by
  by_cases h : c
  · rw [if_pos h]; exact ⟨fun q => ⟨fun _ => q, fun n => absurd h n⟩, fun q => q.1 h⟩
  · rw [if_neg h]; exact ⟨fun q => ⟨fun n => absurd n h, fun _ => q⟩, fun q => q.2 h⟩
theorem wp_mono {α : Type} {e : Option α} {Q R : α → Prop} (h : wp e Q) (k : ∀ a, Q a → R a) : wp e R := by
  obtain ⟨a, h1, h2⟩ := h
  exact ⟨a, h1, k a h2⟩
theorem wp_eq {α : Type} {e : Option α} {a : α} {Q : α → Prop} (h : e = some a) (q : Q a) : wp e Q := ⟨a, h, q⟩
theorem wp_is {α : Type} {e : Option α} {a : α} (h : wp e (fun x => x = a)) : e = some a := by
  obtain ⟨x, h1, h2⟩ := h
  rw [h1, h2]
def lpS {σ ρ : Type} (I : σ → Prop) (E : ρ → Prop) (b : σ ⊕ ρ) : Prop := match b with
  | .inl s => I s
  | .inr r => E r
theorem lp_inv {σ ρ : Type} {f : σ → Option (σ ⊕ ρ)} (I : Nat → σ → Prop) (E : ρ → Prop) (N : Nat)
    (hs : ∀ i s, i < N → I i s → wp (f s) (lpS (I (i + 1)) E))
    (he : ∀ s, I N s → wp (f s) (lpS (fun _ => False) E)) {n : Nat} (hn : N < n) {s : σ} (h : I 0 s) : wp (lp f n s) E := by
  have key : ∀ (d i : Nat) (n : Nat) (s : σ), i + d = N → d < n → I i s → wp (lp f n s) E := by
    intro d
    induction d with
    | zero =>
      intro i n s hi hn h
      obtain ⟨n', rfl⟩ : ∃ n', n = n' + 1 := ⟨n - 1, by omega⟩
      have hi : i = N := by omega
      subst hi
      obtain ⟨b, h1, h2⟩ := he s h
      cases b with
      | inl s' => exact h2.elim
      | inr r => exact ⟨r, by unfold lp; rw [h1], h2⟩
    | succ d ih =>
      intro i n s hi hn h
      obtain ⟨n', rfl⟩ : ∃ n', n = n' + 1 := ⟨n - 1, by omega⟩
      obtain ⟨b, h1, h2⟩ := hs i s (by omega) h
      cases b with
      | inl s' =>
        obtain ⟨r, h3, h4⟩ := ih (i + 1) n' s' (by omega) (by omega) h2
        exact ⟨r, by unfold lp; rw [h1]; exact h3, h4⟩
      | inr r => exact ⟨r, by unfold lp; rw [h1], h2⟩
  exact key N 0 n s (by omega) hn h
theorem lp_meas {σ ρ : Type} {f : σ → Option (σ ⊕ ρ)} (I : σ → Prop) (E : ρ → Prop) (μ : σ → Nat)
    (hs : ∀ s, I s → wp (f s) (lpS (fun s' => I s' ∧ μ s' < μ s) E)) {n : Nat} {s : σ} (h : I s) (hn : μ s < n) : wp (lp f n s) E := by
  have key : ∀ (n : Nat) (s : σ), I s → μ s < n → wp (lp f n s) E := by
    intro n
    induction n with
    | zero => intro s _ h; omega
    | succ n ih =>
      intro s h hn
      obtain ⟨b, h1, h2⟩ := hs s h
      cases b with
      | inl s' =>
        have h5 : I s' ∧ μ s' < μ s := h2
        obtain ⟨r, h3, h4⟩ := ih s' h5.1 (by omega)
        exact ⟨r, by unfold lp; rw [h1]; exact h3, h4⟩
      | inr r => exact ⟨r, by unfold lp; rw [h1], h2⟩
  exact key n s h hn
/-- numbers -/
theorem n_lit (n : Nat) : (OfNat.ofNat n : Int32) = nI n := rfl
theorem n_add (a b : Nat) : nI a + nI b = nI (a + b) := nI_add a b
theorem n_lt {a b : Nat} (ha : a < 65536) (hb : b < 65536) : nI a < nI b ↔ a < b := nI_ltI (by omega) (by omega)
theorem n_le {a b : Nat} (ha : a < 65536) (hb : b < 65536) : nI a ≤ nI b ↔ a ≤ b := nI_leI (by omega) (by omega)
theorem n_eq {a b : Nat} (ha : a < 65536) (hb : b < 65536) : nI a = nI b ↔ a = b := nI_eq (by omega) (by omega)
theorem n_m1 {a : Nat} (ha : a < 65536) : ¬ nI a = (-1 : Int32) := by
  intro h
  have h2 : (nI a).toInt = (-1 : Int32).toInt := by rw [h]
  rw [nI_toInt (by omega)] at h2
  have h3 : (-1 : Int32).toInt = -1 := by decide
  omega
theorem n_m2 {a : Nat} (ha : a < 65536) : ¬ nI a = (-2 : Int32) := by
  intro h
  have h2 : (nI a).toInt = (-2 : Int32).toInt := by rw [h]
  rw [nI_toInt (by omega)] at h2
  have h3 : (-2 : Int32).toInt = -2 := by decide
  omega
theorem n_neg {a : Nat} (ha : a < 65536) : ¬ nI a < (0 : Int32) := nI_pos (by omega)
theorem n_cl {a : Nat} (ha : a < 65536) : (nI a).toNatClampNeg = a := nI_clamp (by omega)
theorem zlnC_le (k : Nat) : zln zC k < 2000 := by
  rcases Nat.lt_or_ge k 62 with h | h
  · exact (by decide +kernel : ∀ k, k < 62 → zln zC k < 2000) k h
  · have : lnCL.getD k 0 = 0 := by
      rw [List.getD_eq_getElem?_getD, List.getElem?_eq_none (by exact h)]; rfl
    show lnCL.getD k 0 < 2000
    omega
theorem zlnM_le (k : Nat) : zln zM k < 2000 := by
  rcases Nat.lt_or_ge k 24 with h | h
  · exact (by decide +kernel : ∀ k, k < 24 → zln zM k < 2000) k h
  · have : lnML.getD k 0 = 0 := by
      rw [List.getD_eq_getElem?_getD, List.getElem?_eq_none (by exact h)]; rfl
    show lnML.getD k 0 < 2000
    omega
theorem ix_ok {j n : Nat} (hj : j < n) (hn : n < 2000) : ¬ (nI j < 0 ∨ n ≤ (nI j).toNatClampNeg) := by
  rw [n_cl (by omega)]
  rintro (h | h)
  · exact n_neg (by omega) h
  · omega
theorem rdI_C {w : Wd} {k j : Nat} (hj : j < zln zC k) : rdI zC w k (nI j) = some (w.1 k j) := by
  unfold rdI
  rw [if_neg (ix_ok hj (zlnC_le k)), n_cl (by have := zlnC_le k; omega)]
theorem rdI_M {w : Wd} {k j : Nat} (hj : j < zln zM k) : rdI zM w k (nI j) = some (w.1 k j) := by
  unfold rdI
  rw [if_neg (ix_ok hj (zlnM_le k)), n_cl (by have := zlnM_le k; omega)]
theorem rdL_C {w : Wd} {k j : Nat} (hj : j < zln zC k) : rdL zC w k (nI j) = some (w.2.1 k j) := by
  unfold rdL
  rw [if_neg (ix_ok hj (zlnC_le k)), n_cl (by have := zlnC_le k; omega)]
theorem rdL_M {w : Wd} {k j : Nat} (hj : j < zln zM k) : rdL zM w k (nI j) = some (w.2.1 k j) := by
  unfold rdL
  rw [if_neg (ix_ok hj (zlnM_le k)), n_cl (by have := zlnM_le k; omega)]
theorem wrI_C {w : Wd} {k j : Nat} {x : Int32} (hj : j < zln zC k) : wrI zC w k (nI j) x = some (wsI w k j x) := by
  unfold wrI
  rw [if_neg (ix_ok hj (zlnC_le k)), n_cl (by have := zlnC_le k; omega)]
theorem wrI_M {w : Wd} {k j : Nat} {x : Int32} (hj : j < zln zM k) : wrI zM w k (nI j) x = some (wsI w k j x) := by
  unfold wrI
  rw [if_neg (ix_ok hj (zlnM_le k)), n_cl (by have := zlnM_le k; omega)]
theorem wrL_C {w : Wd} {k j : Nat} {x : Int64} (hj : j < zln zC k) : wrL zC w k (nI j) x = some (wsL w k j x) := by
  unfold wrL
  rw [if_neg (ix_ok hj (zlnC_le k)), n_cl (by have := zlnC_le k; omega)]
theorem wrL_M {w : Wd} {k j : Nat} {x : Int64} (hj : j < zln zM k) : wrL zM w k (nI j) x = some (wsL w k j x) := by
  unfold wrL
  rw [if_neg (ix_ok hj (zlnM_le k)), n_cl (by have := zlnM_le k; omega)]
theorem rdS_at {α : Type} {f : Nat → α} {n j : Nat} (hj : j < n) (hn : n < 2000) : rdS f n (nI j) = some (f j) := by
  unfold rdS
  rw [if_neg (ix_ok hj hn), n_cl (by omega)]
theorem rdB_t (b : Bool) : rdB (bI b) = some b := by cases b <;> rfl
/-- bits of an Int32 -/
theorem and1_0 (y : Int32) : y &&& 1 = 0 ↔ bt y 0 = false := by
  constructor
  · intro h
    have h2 : bt (y &&& 1) 0 = bt 0 0 := by rw [h]
    rw [b_and, b_0, show bt 1 0 = true by decide, Bool.and_true] at h2
    exact h2
  · intro h
    apply b_ext
    intro i hi
    rw [b_and, b_0]
    by_cases h0 : i = 0
    · subst h0; rw [h]; rfl
    · rw [show bt 1 i = false from (by decide +kernel : ∀ i, i < 32 → i ≠ 0 → bt 1 i = false) i hi h0, Bool.and_false]
theorem and1_1 (y : Int32) : y &&& 1 = 1 ↔ bt y 0 = true := by
  constructor
  · intro h
    have h2 : bt (y &&& 1) 0 = bt 1 0 := by rw [h]
    rw [b_and, show bt 1 0 = true by decide, Bool.and_true] at h2
    exact h2
  · intro h
    apply b_ext
    intro i hi
    rw [b_and]
    by_cases h0 : i = 0
    · subst h0; rw [h]; rfl
    · rw [show bt 1 i = false from (by decide +kernel : ∀ i, i < 32 → i ≠ 0 → bt 1 i = false) i hi h0, Bool.and_false]
theorem cont_bt {x : Int32} {i : Nat} (hi : i < 32) : f_X9_contains x (nI i) = bt x i := by
  unfold f_X9_contains jushr
  have h := b_ushr i hi x 0
  rw [Nat.add_zero] at h
  cases hb : bt x i with
  | false => exact decide_eq_false (fun z => z ((and1_0 _).mpr (by rw [h, hb])))
  | true => exact decide_eq_true (fun z => by rw [(and1_0 _).mp z] at h; rw [hb] at h; cases h)
theorem has_bt {x : Int32} {i : Nat} (hi : i < 32) : f_X10_has x (nI i) = bt x i := by
  unfold f_X10_has jshr
  have h := b_sshr i hi x (i := 0) (by omega)
  rw [Nat.add_zero, if_pos hi] at h
  cases hb : bt x i with
  | false => exact decide_eq_false (fun z => by rw [(and1_1 _).mp z] at h; rw [hb] at h; cases h)
  | true => exact decide_eq_true ((and1_1 _).mpr (by rw [h, hb]))
theorem bt_bit {i j : Nat} (hi : i < 32) (hj : j < 32) : bt (jshl 1 (nI i)) j = decide (j = i) := by
  unfold jshl
  rw [b_shl i hi 1 hj]
  by_cases h : j = i
  · subst h; simp; decide
  · rw [decide_eq_false h]
    by_cases h2 : i ≤ j
    · rw [decide_eq_true h2, Bool.true_and]
      exact (by decide +kernel : ∀ i, i < 32 → i ≠ 0 → bt 1 i = false) (j - i) (by omega) (by omega)
    · rw [decide_eq_false h2, Bool.false_and]
theorem bt_not {x : Int32} {j : Nat} (hj : j < 32) : bt (x ^^^ (-1)) j = !bt x j := by
  rw [b_xor, b_m1 j hj]
  cases bt x j <;> rfl
theorem bt_z {x : Int32} : x = 0 ↔ ∀ j, j < 32 → bt x j = false := by
  constructor
  · rintro rfl j _; exact b_0 j
  · intro h; exact b_ext fun i hi => by rw [h i hi, b_0]
theorem bt_diff {x y : Int32} : x &&& (y ^^^ (-1)) = 0 ↔ ∀ j, j < 32 → bt x j = true → bt y j = true := by
  rw [bt_z]
  constructor
  · intro h j hj hx
    have := h j hj
    rw [b_and, bt_not hj, hx] at this
    cases hy : bt y j with
    | false => rw [hy] at this; cases this
    | true => rfl
  · intro h j hj
    rw [b_and, bt_not hj]
    cases hx : bt x j with
    | false => rfl
    | true => rw [h j hj hx]; rfl
