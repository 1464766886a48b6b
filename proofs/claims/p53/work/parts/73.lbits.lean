/-! Int64 by its bits; Long.numberOfTrailingZeros and Long.bitCount. The rows wb_ are pasted out of the kit's BITS. -/
def lb (x : Int64) (i : Nat) : Bool := x.toBitVec.getLsbD i
theorem l_ext {x y : Int64} (h : ∀ i, i < 64 → lb x i = lb y i) : x = y := Int64.toBitVec_inj.mp (BitVec.eq_of_getLsbD_eq (fun i hi => h i hi))
theorem l_or (x y : Int64) (i : Nat) : lb (x ||| y) i = (lb x i || lb y i) := by unfold lb; rw [Int64.toBitVec_or, BitVec.getLsbD_or]
theorem l_and (x y : Int64) (i : Nat) : lb (x &&& y) i = (lb x i && lb y i) := by unfold lb; rw [Int64.toBitVec_and, BitVec.getLsbD_and]
theorem l_xor (x y : Int64) (i : Nat) : lb (x ^^^ y) i = (lb x i ^^ lb y i) := by unfold lb; rw [Int64.toBitVec_xor, BitVec.getLsbD_xor]
theorem l_big {x : Int64} {i : Nat} (h : 64 ≤ i) : lb x i = false := BitVec.getLsbD_of_ge _ _ h
theorem l64 {x : Int64} {i : Nat} (h : lb x i = true) : i < 64 := by
  rcases Nat.lt_or_ge i 64 with q | q
  · exact q
  · rw [l_big q] at h; cases h
theorem l_m1 : ∀ i, i < 64 → lb (-1) i = true := by decide +kernel
theorem l_1 : ∀ i, i < 64 → lb 1 i = decide (i = 0) := by decide +kernel
theorem l_0 (i : Nat) : lb 0 i = false := BitVec.getLsbD_zero
theorem l_sl : ∀ n, n < 64 → (((nI n).toInt64 &&& 63).toBitVec.smod 64).toNat = n := by decide +kernel
theorem l_su : ∀ n, n < 64 → (((nI n).toInt64.toUInt64 &&& Int64.toUInt64 63).toBitVec % 64).toNat = n := by decide +kernel
theorem l_shl {n : Nat} (hn : n < 64) (x : Int64) {i : Nat} (hi : i < 64) : lb (jlshl x (nI n)) i = (decide (n ≤ i) && lb x (i - n)) := by
  unfold lb jlshl
  rw [Int64.toBitVec_shiftLeft]
  show (x.toBitVec <<< (((nI n).toInt64 &&& 63).toBitVec.smod 64).toNat).getLsbD i = _
  rw [l_sl n hn, BitVec.getLsbD_shiftLeft]
  rcases Nat.lt_or_ge i n with h | h
  · simp [h, Nat.not_le.mpr h]
  · simp [hi, h, Nat.not_lt.mpr h]
theorem l_ushr {n : Nat} (hn : n < 64) (x : Int64) (i : Nat) : lb (jlushr x (nI n)) i = lb x (n + i) := by
  show (x.toUInt64 >>> ((nI n).toInt64.toUInt64 &&& Int64.toUInt64 63)).toBitVec.getLsbD i = x.toUInt64.toBitVec.getLsbD (n + i)
  rw [UInt64.toBitVec_shiftRight]
  show (x.toUInt64.toBitVec >>> (((nI n).toInt64.toUInt64 &&& Int64.toUInt64 63).toBitVec % 64).toNat).getLsbD i = _
  rw [l_su n hn, BitVec.getLsbD_ushiftRight]
theorem l_sshr {n : Nat} (hn : n < 64) (x : Int64) {i : Nat} (hi : i < 64) : lb (jlshr x (nI n)) i = if n + i < 64 then lb x (n + i) else lb x 63 := by
  unfold lb jlshr
  rw [Int64.toBitVec_shiftRight]
  show (x.toBitVec.sshiftRight (((nI n).toInt64 &&& 63).toBitVec.smod 64).toNat).getLsbD i = _
  rw [l_sl n hn, BitVec.getLsbD_sshiftRight, BitVec.msb_eq_getLsbD_last]
  simp [hi]
theorem l_bit {i j : Nat} (hi : i < 64) (hj : j < 64) : lb (jlshl 1 (nI i)) j = decide (j = i) := by
  rw [l_shl hi 1 hj]
  by_cases h : j = i
  · subst h; simp; decide
  · rw [decide_eq_false h]
    by_cases h2 : i ≤ j
    · rw [decide_eq_true h2, Bool.true_and, l_1 _ (by omega)]
      exact decide_eq_false (by omega)
    · rw [decide_eq_false h2, Bool.false_and]
theorem l_not {x : Int64} {j : Nat} (hj : j < 64) : lb (x ^^^ (-1)) j = !lb x j := by
  rw [l_xor, l_m1 j hj]
  cases lb x j <;> rfl
theorem land1_0 (y : Int64) : y &&& 1 = 0 ↔ lb y 0 = false := by
  constructor
  · intro h
    have h2 : lb (y &&& 1) 0 = lb 0 0 := by rw [h]
    rw [l_and, l_0, l_1 0 (by omega), decide_eq_true rfl, Bool.and_true] at h2
    exact h2
  · intro h
    apply l_ext
    intro i hi
    rw [l_and, l_0, l_1 i hi]
    by_cases h0 : i = 0
    · subst h0; rw [h]; rfl
    · rw [decide_eq_false h0, Bool.and_false]
theorem land1_1 (y : Int64) : y &&& 1 = 1 ↔ lb y 0 = true := by
  constructor
  · intro h
    have h2 : lb (y &&& 1) 0 = lb 1 0 := by rw [h]
    rw [l_and, l_1 0 (by omega), decide_eq_true rfl, Bool.and_true] at h2
    exact h2
  · intro h
    apply l_ext
    intro i hi
    rw [l_and, l_1 i hi]
    by_cases h0 : i = 0
    · subst h0; rw [h]; rfl
    · rw [decide_eq_false h0, Bool.and_false]
theorem holds_lb {x : Int64} {i : Nat} (hi : i < 64) : f_X9_holds x (nI i) = lb x i := by
  unfold f_X9_holds
  have h := l_ushr hi x 0
  rw [Nat.add_zero] at h
  cases hb : lb x i with
  | false => exact decide_eq_false (fun z => z ((land1_0 _).mpr (by rw [h, hb])))
  | true => exact decide_eq_true (fun z => by rw [(land1_0 _).mp z] at h; rw [hb] at h; cases h)
theorem hasBit_lb {x : Int64} {i : Nat} (hi : i < 64) : f_X10_hasBit x (nI i) = lb x i := by
  unfold f_X10_hasBit
  have h := l_sshr hi x (i := 0) (by omega)
  rw [Nat.add_zero, if_pos hi] at h
  cases hb : lb x i with
  | false => exact decide_eq_false (fun z => by rw [(land1_1 _).mp z] at h; rw [hb] at h; cases h)
  | true => exact decide_eq_true ((land1_1 _).mpr (by rw [h, hb]))
/-! numberOfTrailingZeros -/
theorem sub1_bits {w : Nat} (x : BitVec w) {t : Nat} (h1 : x.getLsbD t = true) (h2 : ∀ j, j < t → x.getLsbD j = false) (j : Nat) : (x - 1#w).getLsbD j = (decide (j < t) || (decide (t < j) && x.getLsbD j)) := by
  have tw : t < w := by
    rcases Nat.lt_or_ge t w with q | q
    · exact q
    · rw [BitVec.getLsbD_of_ge _ _ q] at h1; cases h1
  have e1 : x.toNat % 2 ^ (t + 1) = 2 ^ t := by
    apply Nat.eq_of_testBit_eq
    intro i
    rw [Nat.testBit_mod_two_pow, Nat.testBit_two_pow]
    rcases Nat.lt_trichotomy i t with q | q | q
    · have : x.toNat.testBit i = false := h2 i q
      rw [this, Bool.and_false]; exact (decide_eq_false (by omega)).symm
    · subst q
      have : x.toNat.testBit i = true := h1
      rw [this, decide_eq_true (by omega), decide_eq_true rfl]; rfl
    · rw [decide_eq_false (show ¬ i < t + 1 by omega)]; exact (decide_eq_false (by omega)).symm
  have p1 : 0 < 2 ^ t := Nat.two_pow_pos t
  have p2 : 2 ^ t < 2 ^ (t + 1) := Nat.pow_lt_pow_right (by decide) (by omega)
  have e2 : x.toNat = 2 ^ (t + 1) * (x.toNat / 2 ^ (t + 1)) + 2 ^ t := by
    have := Nat.div_add_mod x.toNat (2 ^ (t + 1))
    omega
  have w1 : 1 < 2 ^ w := Nat.one_lt_two_pow (by omega)
  have hx := x.isLt
  have e3 : (x - 1#w).toNat = 2 ^ (t + 1) * (x.toNat / 2 ^ (t + 1)) + (2 ^ t - 1) := by
    rw [BitVec.toNat_sub, BitVec.toNat_ofNat, Nat.mod_eq_of_lt w1]
    generalize hQ : 2 ^ (t + 1) * (x.toNat / 2 ^ (t + 1)) = Q at e2 ⊢
    rw [show 2 ^ w - 1 + x.toNat = (x.toNat - 1) + 2 ^ w by omega, Nat.add_mod_right, Nat.mod_eq_of_lt (by omega)]
    omega
  show (x - 1#w).toNat.testBit j = _
  rw [e3, Nat.testBit_two_pow_mul_add _ (show 2 ^ t - 1 < 2 ^ (t + 1) by omega)]
  by_cases hj : j < t + 1
  · rw [if_pos hj, Nat.testBit_two_pow_sub_one, decide_eq_false (show ¬ t < j by omega), Bool.false_and, Bool.or_false]
  · rw [if_neg hj, decide_eq_false (show ¬ j < t by omega), decide_eq_true (show t < j by omega), Bool.true_and, Bool.false_or]
    show _ = x.toNat.testBit j
    have e4 := Nat.testBit_two_pow_mul_add (x.toNat / 2 ^ (t + 1)) (show 2 ^ t < 2 ^ (t + 1) by omega) j
    rw [← e2, if_neg hj] at e4
    exact e4.symm
def ntq (y : Int32) : Option Int32 := if y ≤ (0 : Int32) then some (y &&& (32 : Int32)) else Option.bind (if (65536 : Int32) < y then some ((jushr y ((16 : Int32))), ((1 : Int32) + (16 : Int32))) else some (y, (1 : Int32))) (fun s2 => Option.bind (if (256 : Int32) < s2.1 then some ((jushr (s2.1) ((8 : Int32))), (s2.2 + (8 : Int32))) else some (s2.1, s2.2)) (fun s4 => Option.bind (if (16 : Int32) < s4.1 then some ((jushr (s4.1) ((4 : Int32))), (s4.2 + (4 : Int32))) else some (s4.1, s4.2)) (fun s6 => Option.bind (if (4 : Int32) < s6.1 then some ((jushr (s6.1) ((2 : Int32))), (s6.2 + (2 : Int32))) else some (s6.1, s6.2)) (fun s8 => some ((s8.2 + (jushr (s8.1) ((1 : Int32)))))))))
theorem ntq_dec : ∀ t, t < 32 → ntq (nI (2 ^ t - 1)) = some (nI t) := by decide +kernel
theorem ntz32 {v : Int32} {t : Nat} (h1 : bt v t = true) (h2 : ∀ j, j < t → bt v j = false) : f_J6_numberOfTrailingZeros v = some (nI t) := by
  have ht : t < 32 := b32 h1
  have e : (v ^^^ (-1 : Int32)) &&& (v - (1 : Int32)) = nI (2 ^ t - 1) := by
    refine b_ext fun j hj => ?_
    have e1 : bt (v - 1) j = (decide (j < t) || (decide (t < j) && bt v j)) := sub1_bits v.toBitVec h1 h2 j
    have e2 : bt (nI (2 ^ t - 1)) j = decide (j < t) := by
      show (BitVec.ofNat 32 (2 ^ t - 1)).getLsbD j = _
      rw [BitVec.getLsbD_ofNat, decide_eq_true hj, Bool.true_and, Nat.testBit_two_pow_sub_one]
    rw [b_and, bt_not hj, e1, e2]
    rcases Nat.lt_trichotomy j t with q | q | q
    · rw [h2 j q, decide_eq_true q]; rfl
    · subst q; rw [h1]; simp
    · rw [decide_eq_false (show ¬ j < t by omega), decide_eq_true q]; cases bt v j <;> rfl
  have f : f_J6_numberOfTrailingZeros v = ntq ((v ^^^ (-1 : Int32)) &&& (v - (1 : Int32))) := rfl
  rw [f, e]
  exact ntq_dec t ht
theorem bt_int {x : Int64} {j : Nat} (hj : j < 32) : bt x.toInt32 j = lb x j := by
  show (x.toBitVec.signExtend 32).getLsbD j = x.toBitVec.getLsbD j
  rw [BitVec.getLsbD_signExtend, decide_eq_true hj, if_pos (by omega), Bool.true_and]
theorem ntz64 {x : Int64} {t : Nat} (h1 : lb x t = true) (h2 : ∀ j, j < t → lb x j = false) : f_J13_numberOfTrailingZeros x = some (nI t) := by
  have ht : t < 64 := l64 h1
  unfold f_J13_numberOfTrailingZeros
  by_cases h : t < 32
  · rw [if_neg (fun z => by
      have := bt_int (x := x) h
      rw [z, b_0, h1] at this; cases this), ntz32 (v := x.toInt32) (t := t) (by rw [bt_int h, h1]) (fun j hj => by rw [bt_int (by omega), h2 j hj])]
    rfl
  · rw [if_pos (b_ext fun j hj => by rw [bt_int hj, b_0, h2 j (by omega)]), ntz32 (v := (jlushr x (32 : Int32)).toInt32) (t := t - 32) (by rw [bt_int (by omega)]; exact (l_ushr (n := 32) (by omega) x (t - 32)).trans (by rw [show 32 + (t - 32) = t by omega, h1])) (fun j hj => by rw [bt_int (by omega)]; exact (l_ushr (n := 32) (by omega) x j).trans (by rw [h2 _ (by omega)]))]
    show some ((32 : Int32) + nI (t - 32)) = _
    show some (nI 32 + nI (t - 32)) = _
    rw [nI_add, show 32 + (t - 32) = t by omega]
