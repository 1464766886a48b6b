/-! Bytes of a word: the class's unsigned and the reference's signed shift give the same byte. -/
theorem byte_of {x y : Int32} (h : ∀ i, i < 8 → bt x i = bt y i) : jbyte x = jbyte y := by
  unfold jbyte
  have e : x.toInt8 = y.toInt8 := Int8.toBitVec_inj.mp (BitVec.eq_of_getLsbD_eq fun i hi => by
    have := h i hi
    unfold bt at this
    rw [Int32.toBitVec_toInt8, Int32.toBitVec_toInt8, BitVec.getLsbD_signExtend, BitVec.getLsbD_signExtend, if_pos (show i < 32 by omega), if_pos (show i < 32 by omega), this])
  rw [e]
theorem byte_shift {v : Int32} {s : Nat} (hs : s ≤ 24) : jbyte (jushr v (nI s)) = jbyte (jshr v (nI s)) := byte_of fun i hi => by
  unfold jushr jshr
  rw [b_ushr s (by omega) v i, b_sshr s (by omega) v (i := i) (by omega), if_pos (by omega)]
