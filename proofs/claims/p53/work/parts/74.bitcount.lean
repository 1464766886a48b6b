/-! Long.bitCount counts the bits. The rows wb_ are pasted out of the kit's BITS. -/
theorem wb_tb (n : Nat) : (lN n).toBitVec = BitVec.ofNat 64 n := rfl
theorem wb_inj {a b : Int64} (h : a.toBitVec = b.toBitVec) : a = b := Int64.toBitVec_inj.mp h
theorem wb_tn {n : Nat} (h : n < 2 ^ 64) : (lN n).toBitVec.toNat = n := by rw [wb_tb, BitVec.toNat_ofNat, Nat.mod_eq_of_lt h]
theorem wb_of (x : Int64) : ∃ n, n < 2 ^ 64 ∧ x = lN n := ⟨x.toBitVec.toNat, x.toBitVec.isLt, wb_inj (by rw [wb_tb]; simp)⟩
theorem wb_of32 (x : Int32) : ∃ n, n < 2 ^ 32 ∧ x = nI n := ⟨x.toBitVec.toNat, x.toBitVec.isLt, Int32.toBitVec_inj.mp (by show _ = BitVec.ofNat 32 _; simp)⟩
theorem wb_c : ∀ k, k < 64 → ((nI k).toInt64 &&& 63) = lN k := by decide +kernel
theorem wb_cu : ∀ k, k < 64 → ((nI k).toInt64.toUInt64 &&& Int64.toUInt64 63) = UInt64.ofNat k := by decide +kernel
theorem wb_sm : ∀ k, k < 64 → (BitVec.ofNat 64 k).smod 64 = BitVec.ofNat 64 k := by decide +kernel
theorem wb_pw {a b : Nat} (h : a ≤ b) : 2 ^ b = 2 ^ a * 2 ^ (b - a) := by rw [← Nat.pow_add]; congr 1; omega
theorem wb_lt2 {a b : Nat} (h : a < b) : 2 ^ a < 2 ^ b := Nat.pow_lt_pow_right (by decide) h
theorem wb_mod (n : Nat) : lN n = lN (n % 2 ^ 64) := wb_inj (by rw [wb_tb, wb_tb]; apply BitVec.eq_of_toNat_eq; rw [BitVec.toNat_ofNat, BitVec.toNat_ofNat, Nat.mod_mod])
theorem wb_shr {n k : Nat} (hn : n < 2 ^ 64) (hk : k < 64) : ((lN n).toUInt64 >>> ((nI k).toInt64.toUInt64 &&& Int64.toUInt64 63)).toInt64 = lN (n / 2 ^ k) := by
  rw [wb_cu k hk]
  apply wb_inj
  apply BitVec.eq_of_toNat_eq
  show ((lN n).toUInt64 >>> UInt64.ofNat k).toNat = (BitVec.ofNat 64 _).toNat
  have h1 : (UInt64.ofNat k).toNat = k := by
    show (BitVec.ofNat 64 k).toNat = k
    rw [BitVec.toNat_ofNat, Nat.mod_eq_of_lt (by omega)]
  have h2 : (lN n).toUInt64.toNat = n := wb_tn hn
  rw [UInt64.toNat_shiftRight, h1, h2, Nat.mod_eq_of_lt hk, Nat.shiftRight_eq_div_pow, BitVec.toNat_ofNat, Nat.mod_eq_of_lt (Nat.lt_of_le_of_lt (Nat.div_le_self _ _) hn)]
theorem wb_shl (n : Nat) {k : Nat} (hk : k < 64) : lN n <<< ((nI k).toInt64 &&& 63) = lN (n * 2 ^ k) := by
  rw [wb_c k hk]
  apply wb_inj
  rw [Int64.toBitVec_shiftLeft, wb_tb, wb_tb, wb_tb, wb_sm k hk]
  apply BitVec.eq_of_toNat_eq
  rw [BitVec.shiftLeft_eq', BitVec.toNat_shiftLeft, BitVec.toNat_ofNat, BitVec.toNat_ofNat, BitVec.toNat_ofNat, Nat.mod_eq_of_lt (show k < 2 ^ 64 by omega), Nat.shiftLeft_eq, Nat.mul_mod, Nat.mod_mod, ← Nat.mul_mod]
theorem wb_and {a b : Nat} (ha : a < 2 ^ 64) (hb : b < 2 ^ 64) : lN a &&& lN b = lN (a &&& b) := by
  apply wb_inj
  rw [Int64.toBitVec_and, wb_tb, wb_tb, wb_tb]
  apply BitVec.eq_of_toNat_eq
  rw [BitVec.toNat_and, BitVec.toNat_ofNat, BitVec.toNat_ofNat, BitVec.toNat_ofNat, Nat.mod_eq_of_lt ha, Nat.mod_eq_of_lt hb, Nat.mod_eq_of_lt (Nat.and_lt_two_pow _ hb)]
theorem wb_or {a b : Nat} (ha : a < 2 ^ 64) (hb : b < 2 ^ 64) : lN a ||| lN b = lN (a ||| b) := by
  apply wb_inj
  rw [Int64.toBitVec_or, wb_tb, wb_tb, wb_tb]
  apply BitVec.eq_of_toNat_eq
  rw [BitVec.toNat_or, BitVec.toNat_ofNat, BitVec.toNat_ofNat, BitVec.toNat_ofNat, Nat.mod_eq_of_lt ha, Nat.mod_eq_of_lt hb, Nat.mod_eq_of_lt (Nat.or_lt_two_pow ha hb)]
theorem wb_mask {n k : Nat} (hn : n < 2 ^ 64) (hk : k < 64) : lN n &&& lN (2 ^ k - 1) = lN (n % 2 ^ k) := by
  rw [wb_and hn (by have := wb_lt2 hk; omega), Nat.and_two_pow_sub_one_eq_mod]
theorem wb_a1 {n : Nat} (hn : n < 2 ^ 64) : lN n &&& 1 = lN (n % 2) := wb_mask (k := 1) hn (by decide)
/-- a word of k equal bytes -/
def mkb (c : Nat) : Nat → Nat
  | 0 => 0
  | k + 1 => 256 * mkb c k + c
theorem and_by {q b m c : Nat} (hb : b < 256) (hc : c < 256) : (256 * q + b) &&& (256 * m + c) = 256 * (q &&& m) + (b &&& c) := by
  apply Nat.eq_of_testBit_eq
  intro j
  have h8 : b &&& c < 2 ^ 8 := Nat.and_lt_two_pow _ (show c < 2 ^ 8 from hc)
  have e1 := Nat.testBit_two_pow_mul_add q (show b < 2 ^ 8 from hb) j
  have e2 := Nat.testBit_two_pow_mul_add m (show c < 2 ^ 8 from hc) j
  have e3 := Nat.testBit_two_pow_mul_add (q &&& m) h8 j
  have f1 : (256 * q + b).testBit j = _ := e1
  have f2 : (256 * m + c).testBit j = _ := e2
  have f3 : (256 * (q &&& m) + (b &&& c)).testBit j = _ := e3
  rw [Nat.testBit_and, f1, f2, f3]
  by_cases h : j < 8
  · rw [if_pos h, if_pos h, if_pos h, Nat.testBit_and]
  · rw [if_neg h, if_neg h, if_neg h, Nat.testBit_and]
def sw1 (k n : Nat) : Nat := n - (n / 2 &&& mkb 85 k)
def sw2 (k n : Nat) : Nat := (n &&& mkb 51 k) + (n / 4 &&& mkb 51 k)
def sw3 (k n : Nat) : Nat := (n + n / 16) &&& mkb 15 k
def pw1 (b : Nat) : Nat := b - (b / 2 &&& 85)
def pw2 (b : Nat) : Nat := (b &&& 51) + (b / 4 &&& 51)
def pw3 (b : Nat) : Nat := (b + b / 16) % 16
theorem dw1 : ∀ e, e < 2 → ∀ b, b < 256 → (128 * e + b / 2) &&& 85 = b / 2 &&& 85 := by decide +kernel
theorem dw2 : ∀ e, e < 4 → ∀ b, b < 256 → (64 * e + b / 4) &&& 51 = b / 4 &&& 51 := by decide +kernel
theorem dw3 : ∀ b, b < 256 → pw1 b < 256 ∧ pw2 (pw1 b) ≤ 68 ∧ pw2 (pw1 b) % 16 ≤ 4 ∧ pw3 (pw2 (pw1 b)) ≤ 8 ∧ pw3 (pw2 (pw1 b)) = cn (fun j => b.testBit j) 8 := by decide +kernel
theorem sw1_by {k q b : Nat} (hb : b < 256) : sw1 (k + 1) (256 * q + b) = 256 * sw1 k q + pw1 b := by
  have e : (256 * q + b) / 2 = 256 * (q / 2) + (128 * (q % 2) + b / 2) := by omega
  unfold sw1 pw1
  rw [mkb, e, and_by (by omega) (by decide), dw1 _ (by omega) _ hb]
  have h1 : q / 2 &&& mkb 85 k ≤ q / 2 := Nat.and_le_left
  have h2 : b / 2 &&& 85 ≤ b / 2 := Nat.and_le_left
  omega
theorem sw2_by {k q b : Nat} (hb : b < 256) : sw2 (k + 1) (256 * q + b) = 256 * sw2 k q + pw2 b := by
  have e : (256 * q + b) / 4 = 256 * (q / 4) + (64 * (q % 4) + b / 4) := by omega
  unfold sw2 pw2
  rw [mkb, e, and_by hb (by decide), and_by (by omega) (by decide), dw2 _ (by omega) _ hb]
  omega
theorem sw12_low (k n : Nat) : sw2 k (sw1 k n) % 16 ≤ 4 := by
  cases k with
  | zero => unfold sw2; rw [show mkb 51 0 = 0 from rfl, Nat.and_zero, Nat.and_zero]; decide
  | succ k =>
    have e : n = 256 * (n / 256) + n % 256 := by omega
    have hb : n % 256 < 256 := Nat.mod_lt _ (by decide)
    rw [e, sw1_by hb, sw2_by (dw3 _ hb).1]
    have := (dw3 _ hb).2.2.1
    omega
theorem sw3_by {k q b : Nat} (hb : b ≤ 68) (hq : q % 16 ≤ 4) : sw3 (k + 1) (256 * q + b) = 256 * sw3 k q + pw3 b := by
  have e : 256 * q + b + (256 * q + b) / 16 = 256 * (q + q / 16) + (b + (16 * (q % 16) + b / 16)) := by omega
  unfold sw3 pw3
  rw [mkb, e, and_by (by omega) (by decide), show (15 : Nat) = 2 ^ 4 - 1 from rfl, Nat.and_two_pow_sub_one_eq_mod]
  congr 1
  omega
def bwt (b : Nat) : Nat := pw3 (pw2 (pw1 b))
def wrc (k : Nat) (n : Nat) : Nat := match k with
  | 0 => 0
  | k + 1 => 256 * wrc k (n / 256) + bwt (n % 256)
theorem sw123 (k : Nat) : ∀ n, sw3 k (sw2 k (sw1 k n)) = wrc k n := by
  induction k with
  | zero => intro n; unfold sw3; rw [show mkb 15 0 = 0 from rfl, Nat.and_zero]; rfl
  | succ k ih =>
    intro n
    have e : n = 256 * (n / 256) + n % 256 := by omega
    have hb : n % 256 < 256 := Nat.mod_lt _ (by decide)
    have h1 : sw3 (k + 1) (sw2 (k + 1) (sw1 (k + 1) (256 * (n / 256) + n % 256))) = 256 * wrc k (n / 256) + bwt (n % 256) := by
      rw [sw1_by hb, sw2_by (dw3 _ hb).1, sw3_by (dw3 _ hb).2.1 (sw12_low _ _), ih]; rfl
    rw [← e] at h1
    exact h1
def wsm (k : Nat) (n : Nat) : Nat := match k with
  | 0 => 0
  | k + 1 => bwt (n % 256) + wsm k (n / 256)
theorem wsm_cn (k : Nat) : ∀ n, wsm k n = cn (fun j => n.testBit j) (8 * k) := by
  induction k with
  | zero => intro n; rfl
  | succ k ih =>
    intro n
    have hb : n % 256 < 256 := Nat.mod_lt _ (by decide)
    rw [show 8 * (k + 1) = 8 + 8 * k by omega, cn_split]
    show bwt (n % 256) + wsm k (n / 256) = _
    rw [ih, show bwt (n % 256) = _ from (dw3 _ hb).2.2.2.2]
    congr 1
    · refine cn_cong fun j hj => ?_
      have := Nat.testBit_mod_two_pow n 8 j
      rw [decide_eq_true hj, Bool.true_and] at this
      exact this
    · refine cn_cong fun j hj => ?_
      have := Nat.testBit_add n j 8
      rw [Nat.add_comm 8 j]
      exact this.symm
theorem wrc_sum (n : Nat) : ∃ r4 r5 r6, wrc 8 n + wrc 8 n / 256 = r4 ∧ r4 + r4 / 65536 = r5 ∧ r5 + r5 / 4294967296 = r6 ∧ wrc 8 n < 2 ^ 60 ∧ r4 < 2 ^ 61 ∧ r5 < 2 ^ 62 ∧ r6 < 2 ^ 63 ∧ r6 % 128 = wsm 8 n ∧ wsm 8 n ≤ 64 := by
  refine ⟨_, _, _, rfl, rfl, rfl, ?_⟩
  have hb : ∀ m, bwt (m % 256) ≤ 8 := fun m => (dw3 _ (Nat.mod_lt m (by decide))).2.2.2.1
  unfold wrc wrc wrc wrc wrc wrc wrc wrc wrc wsm wsm wsm wsm wsm wsm wsm wsm wsm
  have c0 := hb n
  have c1 := hb (n / 256)
  have c2 := hb (n / 256 / 256)
  have c3 := hb (n / 256 / 256 / 256)
  have c4 := hb (n / 256 / 256 / 256 / 256)
  have c5 := hb (n / 256 / 256 / 256 / 256 / 256)
  have c6 := hb (n / 256 / 256 / 256 / 256 / 256 / 256)
  have c7 := hb (n / 256 / 256 / 256 / 256 / 256 / 256 / 256)
  generalize bwt (n % 256) = b0 at *
  generalize bwt (n / 256 % 256) = b1 at *
  generalize bwt (n / 256 / 256 % 256) = b2 at *
  generalize bwt (n / 256 / 256 / 256 % 256) = b3 at *
  generalize bwt (n / 256 / 256 / 256 / 256 % 256) = b4 at *
  generalize bwt (n / 256 / 256 / 256 / 256 / 256 % 256) = b5 at *
  generalize bwt (n / 256 / 256 / 256 / 256 / 256 / 256 % 256) = b6 at *
  generalize bwt (n / 256 / 256 / 256 / 256 / 256 / 256 / 256 % 256) = b7 at *
  obtain ⟨r3, h3⟩ : ∃ r, r = 256 * (256 * (256 * (256 * (256 * (256 * (256 * (256 * 0 + b7) + b6) + b5) + b4) + b3) + b2) + b1) + b0 := ⟨_, rfl⟩
  rw [← h3]
  have g4 : r3 + r3 / 256 = 72057594037927936 * b7 + 281474976710656 * (b6 + b7) + 1099511627776 * (b5 + b6) + 4294967296 * (b4 + b5) + 16777216 * (b3 + b4) + 65536 * (b2 + b3) + 256 * (b1 + b2) + (b0 + b1) := by omega
  obtain ⟨r4, h4⟩ : ∃ r, r = r3 + r3 / 256 := ⟨_, rfl⟩
  rw [← h4] at g4 ⊢
  have g5 : r4 + r4 / 65536 = 72057594037927936 * b7 + 281474976710656 * (b6 + b7) + 1099511627776 * (b5 + b6 + b7) + 4294967296 * (b4 + b5 + b6 + b7) + 16777216 * (b3 + b4 + b5 + b6) + 65536 * (b2 + b3 + b4 + b5) + 256 * (b1 + b2 + b3 + b4) + (b0 + b1 + b2 + b3) := by omega
  obtain ⟨r5, h5⟩ : ∃ r, r = r4 + r4 / 65536 := ⟨_, rfl⟩
  rw [← h5] at g5 ⊢
  have l3 : r3 < 2 ^ 60 := by omega
  have l4 : r4 < 2 ^ 61 := by omega
  clear h5 h4 g4 h3
  have g6 : r5 / 4294967296 = 16777216 * b7 + 65536 * (b6 + b7) + 256 * (b5 + b6 + b7) + (b4 + b5 + b6 + b7) := by omega
  rw [g6]
  refine ⟨l3, l4, by omega, by omega, by omega, by omega⟩
/-! the same over Int64 -/
def aw1 (v : Int64) : Int64 := v - (jlushr v (1 : Int32) &&& (6148914691236517205 : Int64))
def aw2 (v : Int64) : Int64 := (v &&& (3689348814741910323 : Int64)) + (jlushr v (2 : Int32) &&& (3689348814741910323 : Int64))
def aw3 (v : Int64) : Int64 := (v + jlushr v (4 : Int32)) &&& (1085102592571150095 : Int64)
def aw4 (v : Int64) (d : Int32) : Int64 := v + jlushr v d
theorem aw1_N {n : Nat} (h : n < 2 ^ 64) : aw1 (lN n) = lN (sw1 8 n) := by
  unfold aw1 jlushr sw1
  rw [show (1 : Int32) = nI 1 from rfl, wb_shr h (by decide), show (6148914691236517205 : Int64) = lN (mkb 85 8) by decide, wb_and (by omega) (by decide)]
  exact lN_sub (Nat.le_trans Nat.and_le_left (Nat.div_le_self _ _))
theorem aw2_N {n : Nat} (h : n < 2 ^ 64) : aw2 (lN n) = lN (sw2 8 n) := by
  unfold aw2 jlushr sw2
  rw [show (2 : Int32) = nI 2 from rfl, wb_shr h (by decide), show (3689348814741910323 : Int64) = lN (mkb 51 8) by decide, wb_and h (by decide), wb_and (show n / 2 ^ 2 < 2 ^ 64 by omega) (by decide), lN_add]
theorem aw3_N {n : Nat} (h : n < 2 ^ 63) : aw3 (lN n) = lN (sw3 8 n) := by
  unfold aw3 jlushr sw3
  rw [show (4 : Int32) = nI 4 from rfl, wb_shr (by omega) (by decide), show (1085102592571150095 : Int64) = lN (mkb 15 8) by decide, lN_add, wb_and (by omega) (by decide)]
theorem aw4_N {n d : Nat} (h : n < 2 ^ 64) (hd : d < 64) : aw4 (lN n) (nI d) = lN (n + n / 2 ^ d) := by
  unfold aw4 jlushr
  rw [wb_shr h hd, lN_add]
theorem bitCount_a (v : Int64) : f_J13_bitCount v = (aw4 (aw4 (aw4 (aw3 (aw2 (aw1 v))) (8 : Int32)) (16 : Int32)) (32 : Int32)).toInt32 &&& (127 : Int32) := rfl
theorem bc64 (x : Int64) : f_J13_bitCount x = nI (cn (lb x) 64) := by
  obtain ⟨n, hn, rfl⟩ := wb_of x
  have e : cn (lb (lN n)) 64 = wsm 8 n := by
    rw [wsm_cn]
    refine cn_cong fun j hj => ?_
    show (BitVec.ofNat 64 n).getLsbD j = _
    rw [BitVec.getLsbD_ofNat, decide_eq_true hj, Bool.true_and]
  obtain ⟨r4, r5, r6, h4, h5, h6, l3, l4, l5, l6, hm, hs⟩ := wrc_sum n
  have b1 : sw1 8 n < 2 ^ 64 := Nat.lt_of_le_of_lt (Nat.sub_le _ _) hn
  have b2 : sw2 8 (sw1 8 n) < 2 ^ 63 := by
    have q1 : sw1 8 n &&& mkb 51 8 ≤ mkb 51 8 := Nat.and_le_right
    have q2 : sw1 8 n / 4 &&& mkb 51 8 ≤ mkb 51 8 := Nat.and_le_right
    have q3 : mkb 51 8 = 3689348814741910323 := by decide
    show (sw1 8 n &&& mkb 51 8) + (sw1 8 n / 4 &&& mkb 51 8) < 2 ^ 63
    omega
  rw [e, bitCount_a, aw1_N hn, aw2_N b1, aw3_N b2, sw123, show (8 : Int32) = nI 8 from rfl, aw4_N (by omega) (by decide), show (2 : Nat) ^ 8 = 256 from rfl, h4, show (16 : Int32) = nI 16 from rfl, aw4_N (by omega) (by decide), show (2 : Nat) ^ 16 = 65536 from rfl, h5, show (32 : Int32) = nI 32 from rfl, aw4_N (by omega) (by decide), show (2 : Nat) ^ 32 = 4294967296 from rfl, h6, ← hm]
  refine b_ext fun j hj => ?_
  rw [b_and, bt_int hj]
  show ((BitVec.ofNat 64 r6).getLsbD j && (BitVec.ofNat 32 127).getLsbD j) = (BitVec.ofNat 32 (r6 % 128)).getLsbD j
  rw [BitVec.getLsbD_ofNat, BitVec.getLsbD_ofNat, BitVec.getLsbD_ofNat, decide_eq_true (show j < 64 by omega), decide_eq_true hj, Bool.true_and, Bool.true_and, Bool.true_and, show (128 : Nat) = 2 ^ 7 from rfl, Nat.testBit_mod_two_pow, show (127 : Nat) = 2 ^ 7 - 1 from rfl, Nat.testBit_two_pow_sub_one, Bool.and_comm]
