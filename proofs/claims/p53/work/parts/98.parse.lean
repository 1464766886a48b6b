/-! The whole relation; parse. -/
def Lim (c : Wd) (p : Nat) : Prop := c.1 (p + 1) 1 = nI 16 ∧ c.1 (p + 3) 1 = nI 10 ∧ c.1 (p + 5) 1 = nI 4
def WR (p : Nat) (P : PK) (K : CK) (V O : Nat → Wrd) (c m : Wd) : Prop := Core p P K c m ∧ SnapR P c m ∧ BufR c m ∧ NmC c p P V O ∧ NmM m P V O ∧ GC P K c ∧ DC P K V O c ∧ Lim c p ∧ Lim c (22 - p) ∧ c.2.2 0 2 = 22 - p
def RW (c m : Wd) : Prop := ∃ p P K V O, WR p P K V O c m
section PA
variable {p q : Nat} {P : PK} {K : CK} {V O : Nat → Wrd} {c c' m m' w : Wd} {v : Int32} {L n : Nat}
theorem within_L (hL : L < 65000) : f_X10_within v.toInt64 0 (nI L).toInt64 = inR v (L + 1) := by
  rw [show nI L = nI (L + 1) - 1 from ((pk_sub (a := L + 1) (b := 1) (by omega)).trans (by rw [Nat.add_sub_cancel])).symm]
  exact within_R (by omega)
theorem allOf_bits : ∀ n, n ≤ 30 → ∀ i, i < 32 → bt (f_X10_allOf (nI n)) i = decide (i < n) := by decide +kernel
theorem allOf_en (hn : nc K ≤ 30) (h : ∀ i, bt (en K) i = decide (i < nc K)) : f_X10_allOf (nI (nc K)) = en K := b_ext fun i hi => by rw [allOf_bits _ hn i hi, h i]
/-- the class's preparations -/
def PrC (q n : Nat) (c d : Wd) : Prop := (∀ p, p ≠ 1 → ¬ (q ≤ p ∧ p ≤ q + 13) → d.1 p = c.1 p) ∧ (∀ j, ¬ (1 ≤ j ∧ j ≤ 7) → d.1 1 j = c.1 1 j) ∧ (d.1 1 1 = 0 ∧ d.1 1 2 = nI n ∧ d.1 1 3 = 0 ∧ d.1 1 7 = 0) ∧ d.2 = c.2 ∧ (d.1 (q + 1) 2 = 0 ∧ d.1 (q + 3) 2 = 0 ∧ d.1 (q + 5) 2 = 0 ∧ d.1 q 5 = 0 ∧ d.1 (q + 9) 4 = 0 ∧ d.1 (q + 9) 5 = 0) ∧ (d.1 (q + 1) 1 = c.1 (q + 1) 1 ∧ d.1 (q + 3) 1 = c.1 (q + 3) 1 ∧ d.1 (q + 5) 1 = c.1 (q + 5) 1)
theorem c_clear (hq : PC q) : ∃ d, f_X6_clear (wsI (wsI (wsI (wsI c 1 2 (nI n)) 1 1 0) 1 3 0) 1 7 0) q = some d ∧ PrC q n c d := by
  have hq4 : 4 ≤ q := by rcases hq with rfl | rfl <;> omega
  unfold f_X6_clear f_X0_clear
  rw [zp0 hq, zp1 hq, zp2 hq, zp6 hq, Option.bind_some, Option.bind_some, Option.bind_some, Option.bind_some, Option.bind_some, Option.bind_some, Option.bind_some]
  generalize hd : wsI (wsI (wsI (wsI c 1 2 (nI n)) 1 1 0) 1 3 0) 1 7 0 = d0
  have g1 : ∀ p, p ≠ 1 → d0.1 p = c.1 p := fun p hp => by rw [← hd, wsI_o _ _ _ hp, wsI_o _ _ _ hp, wsI_o _ _ _ hp, wsI_o _ _ _ hp]
  have g2 : d0.2 = c.2 := by rw [← hd]; rfl
  have g3 : d0.1 1 = upd (upd (upd (upd (c.1 1) 2 (nI n)) 1 0) 3 0) 7 0 := by rw [← hd, wsI_s, wsI_s, wsI_s, wsI_s]
  refine ⟨_, rfl, fun p p1 p2 => ?_, fun j hj => ?_, ⟨?_, ?_, ?_, ?_⟩, g2, ⟨?_, ?_, ?_, ?_, ?_, ?_⟩, ⟨?_, ?_, ?_⟩⟩
  · rw [wsI_o _ _ _ (by omega), wsI_o _ _ _ (by omega), wsI_o _ _ _ (by omega), wsI_o _ _ _ (by omega), wsI_o _ _ _ (by omega), wsI_o _ _ _ (by omega), g1 p p1]
  · rw [wsI_o _ _ _ (by omega), wsI_o _ _ _ (by omega), wsI_o _ _ _ (by omega), wsI_o _ _ _ (by omega), wsI_o _ _ _ (by omega), wsI_o _ _ _ (by omega), g3, upd_o (by omega), upd_o (by omega), upd_o (by omega), upd_o (by omega)]
  · rw [wsI_o _ _ _ (by omega), wsI_o _ _ _ (by omega), wsI_o _ _ _ (by omega), wsI_o _ _ _ (by omega), wsI_o _ _ _ (by omega), wsI_o _ _ _ (by omega), g3, upd_o (by omega), upd_o (by omega), upd_s]
  · rw [wsI_o _ _ _ (by omega), wsI_o _ _ _ (by omega), wsI_o _ _ _ (by omega), wsI_o _ _ _ (by omega), wsI_o _ _ _ (by omega), wsI_o _ _ _ (by omega), g3, upd_o (by omega), upd_o (by omega), upd_o (by omega), upd_s]
  · rw [wsI_o _ _ _ (by omega), wsI_o _ _ _ (by omega), wsI_o _ _ _ (by omega), wsI_o _ _ _ (by omega), wsI_o _ _ _ (by omega), wsI_o _ _ _ (by omega), g3, upd_o (by omega), upd_s]
  · rw [wsI_o _ _ _ (by omega), wsI_o _ _ _ (by omega), wsI_o _ _ _ (by omega), wsI_o _ _ _ (by omega), wsI_o _ _ _ (by omega), wsI_o _ _ _ (by omega), g3, upd_s]
  · rw [wsI_o _ _ _ (by omega), wsI_o _ _ _ (by omega), wsI_o _ _ _ (by omega), wsI_o _ _ _ (by omega), wsI_o _ _ _ (by omega), wsI_s, upd_s]
  · rw [wsI_o _ _ _ (by omega), wsI_o _ _ _ (by omega), wsI_o _ _ _ (by omega), wsI_o _ _ _ (by omega), wsI_s, upd_s]
  · rw [wsI_o _ _ _ (by omega), wsI_o _ _ _ (by omega), wsI_o _ _ _ (by omega), wsI_s, upd_s]
  · rw [wsI_o _ _ _ (by omega), wsI_o _ _ _ (by omega), wsI_s, upd_s]
  · rw [wsI_s, upd_o (by omega), wsI_s, upd_s]
  · rw [wsI_s, upd_s]
  · rw [wsI_o _ _ _ (by omega), wsI_o _ _ _ (by omega), wsI_o _ _ _ (by omega), wsI_o _ _ _ (by omega), wsI_o _ _ _ (by omega), wsI_s, upd_o (by omega), g1 _ (by omega)]
  · rw [wsI_o _ _ _ (by omega), wsI_o _ _ _ (by omega), wsI_o _ _ _ (by omega), wsI_o _ _ _ (by omega), wsI_s, upd_o (by omega), wsI_o _ _ _ (by omega), g1 _ (by omega)]
  · rw [wsI_o _ _ _ (by omega), wsI_o _ _ _ (by omega), wsI_o _ _ _ (by omega), wsI_s, upd_o (by omega), wsI_o _ _ _ (by omega), wsI_o _ _ _ (by omega), g1 _ (by omega)]
/-- the reference's preparations -/
def PrM (n : Nat) (m d : Wd) : Prop := (∀ p, p ≠ 0 → ¬ (2 ≤ p ∧ p ≤ 4) → p ≠ 11 → d.1 p = m.1 p) ∧ (∀ j, j ≠ 0 → j ≠ 2 → j ≠ 3 → j ≠ 5 → j ≠ 8 → d.1 0 j = m.1 0 j) ∧ (d.1 0 2 = 0 ∧ d.1 0 3 = nI n ∧ d.1 0 5 = 0 ∧ d.1 0 8 = 0) ∧ d.2 = m.2 ∧ (d.1 2 1 = 0 ∧ d.1 3 1 = 0 ∧ d.1 4 1 = 0 ∧ d.1 11 0 = 0) ∧ (d.1 2 0 = m.1 2 0 ∧ d.1 3 0 = m.1 3 0 ∧ d.1 4 0 = m.1 4 0)
theorem m_prep : ∃ d, wsI (wsI (wsI (wsI (wsI (wsI (wsI (wsI (wsI m 0 0 0) 0 3 (nI n)) 0 2 0) 0 5 0) 0 8 0) 2 1 0) 3 1 0) 4 1 0) 11 0 0 = d ∧ PrM n m d := by
  refine ⟨_, rfl, fun p p1 p2 p3 => ?_, fun j j0 j2 j3 j5 j8 => ?_, ⟨?_, ?_, ?_, ?_⟩, rfl, ⟨?_, ?_, ?_, ?_⟩, ⟨?_, ?_, ?_⟩⟩
  · rw [wsI_o _ _ _ (by omega), wsI_o _ _ _ (by omega), wsI_o _ _ _ (by omega), wsI_o _ _ _ (by omega), wsI_o _ _ _ p1, wsI_o _ _ _ p1, wsI_o _ _ _ p1, wsI_o _ _ _ p1, wsI_o _ _ _ p1]
  · rw [wsI_o _ _ _ (by omega), wsI_o _ _ _ (by omega), wsI_o _ _ _ (by omega), wsI_o _ _ _ (by omega), wsI_s, upd_o j8, wsI_s, upd_o j5, wsI_s, upd_o j2, wsI_s, upd_o j3, wsI_s, upd_o j0]
  · rw [wsI_o _ _ _ (by omega), wsI_o _ _ _ (by omega), wsI_o _ _ _ (by omega), wsI_o _ _ _ (by omega), wsI_s, upd_o (by omega), wsI_s, upd_o (by omega), wsI_s, upd_s]
  · rw [wsI_o _ _ _ (by omega), wsI_o _ _ _ (by omega), wsI_o _ _ _ (by omega), wsI_o _ _ _ (by omega), wsI_s, upd_o (by omega), wsI_s, upd_o (by omega), wsI_s, upd_o (by omega), wsI_s, upd_s]
  · rw [wsI_o _ _ _ (by omega), wsI_o _ _ _ (by omega), wsI_o _ _ _ (by omega), wsI_o _ _ _ (by omega), wsI_s, upd_o (by omega), wsI_s, upd_s]
  · rw [wsI_o _ _ _ (by omega), wsI_o _ _ _ (by omega), wsI_o _ _ _ (by omega), wsI_o _ _ _ (by omega), wsI_s, upd_s]
  · rw [wsI_o _ _ _ (by omega), wsI_o _ _ _ (by omega), wsI_o _ _ _ (by omega), wsI_s, upd_s]
  · rw [wsI_o _ _ _ (by omega), wsI_o _ _ _ (by omega), wsI_s, upd_s]
  · rw [wsI_o _ _ _ (by omega), wsI_s, upd_s]
  · rw [wsI_s, upd_s]
  · rw [wsI_o _ _ _ (by omega), wsI_o _ _ _ (by omega), wsI_o _ _ _ (by omega), wsI_s, upd_o (by omega), wsI_o _ _ _ (by omega), wsI_o _ _ _ (by omega), wsI_o _ _ _ (by omega), wsI_o _ _ _ (by omega), wsI_o _ _ _ (by omega)]
  · rw [wsI_o _ _ _ (by omega), wsI_o _ _ _ (by omega), wsI_s, upd_o (by omega), wsI_o _ _ _ (by omega), wsI_o _ _ _ (by omega), wsI_o _ _ _ (by omega), wsI_o _ _ _ (by omega), wsI_o _ _ _ (by omega), wsI_o _ _ _ (by omega)]
  · rw [wsI_o _ _ _ (by omega), wsI_s, upd_o (by omega), wsI_o _ _ _ (by omega), wsI_o _ _ _ (by omega), wsI_o _ _ _ (by omega), wsI_o _ _ _ (by omega), wsI_o _ _ _ (by omega), wsI_o _ _ _ (by omega), wsI_o _ _ _ (by omega)]
theorem FpC.refl (q : Nat) (c : Wd) : FpC q c c := ⟨fun _ _ _ _ => rfl, fun _ _ => rfl, fun _ _ _ => rfl, rfl, fun _ _ => rfl⟩
theorem FpM.refl (m : Wd) : FpM m m := ⟨fun _ _ _ _ _ _ => rfl, fun _ _ => rfl, fun _ _ _ => rfl, fun _ _ => ⟨rfl, rfl⟩, fun _ _ _ => rfl, fun _ _ _ _ => rfl, rfl⟩
theorem jb_start (hq : PC q) {T : Nat → Nat} {c5 m5 : Wd} (hc : PrC q n c c5) (hm : PrM n m m5) (hl : Lim c q) (hn : n ≤ 600) (hT : ∀ j, j < n → T j < 256 ∧ c.1 2 j = jbyte (nI (T j)) ∧ m.1 1 j = jbyte (nI (T j))) : ∃ c6 m6 s e k, f_X5_nextToken c5 1 = some c6 ∧ f_X10_nextToken m5 0 = some m6 ∧ JB q T n s e k (fun _ => 0) (fun _ _ => (0, fun _ => 0)) (0, 0, 0, 0, fun _ => 0, fun _ => 0) (0, 0, fun _ => 0, fun _ => 0, fun _ => 0, fun _ => 0) c5 m5 c6 m6 := by
  have hq4 : 4 ≤ q := by rcases hq with rfl | rfl <;> omega
  obtain ⟨a1, a2, ⟨a3, a4, a5, a6⟩, a7, ⟨a8, a9, a10, a11, a12, a13⟩, ⟨a14, a15, a16⟩⟩ := hc
  obtain ⟨b1, b2, ⟨b3, b4, b5, b6⟩, b7, ⟨b8, b9, b10, b11⟩, b12⟩ := hm
  obtain ⟨l1, l2, l3⟩ := hl
  have hc : TxC T n c5 := ⟨hn, a4, fun j hj => by rw [a1 2 (by omega) (by omega)]; exact ⟨(hT j hj).1, (hT j hj).2.1⟩⟩
  have hm : TxM T n m5 := ⟨hn, b4, fun j hj => by rw [b1 1 (by omega) (by omega) (by omega)]; exact ⟨(hT j hj).1, (hT j hj).2.2⟩⟩
  obtain ⟨c6, m6, s, e, k, n1, n2, n3, n4, n5, n6⟩ := both_next (e0 := 0) hc hm a5 b5 (by omega)
  have nz : ∀ o, bt (0 : Int32) o = true → False := fun o ho => by rw [b_0] at ho; cases ho
  refine ⟨c6, m6, s, e, k, n1, n2, (FpC.refl q c5).fn hq n5, (FpM.refl m5).fn n6, n3, ⟨by rw [n5.2.1 7 (by omega) (by omega) (by omega)]; exact a6, by rw [n6.2.1 8 (by omega) (by omega) (by omega)]; exact b6⟩, fun t ht => ?_, ⟨rfl, rfl, rfl⟩, ⟨by rw [n5.1 q (by omega)]; exact a11, fun o ho => (nz o ho).elim, fun o ho => absurd ho (Nat.not_lt_zero o)⟩, ⟨⟨by rw [n5.1 _ (by omega)]; exact a12, by rw [n5.1 _ (by omega)]; exact a13, fun i hi => absurd hi (Nat.not_lt_zero i)⟩, by rw [n6.1 11 (by omega)]; exact b11, fun i hi => absurd hi (Nat.not_lt_zero i)⟩, ⟨Nat.zero_le _, Nat.zero_le _, Nat.zero_le _, fun o ho => (nz o ho).elim⟩, ⟨Nat.zero_le _, fun i hi => (nz i hi).elim, fun i hi => absurd hi (Nat.not_lt_zero i)⟩, fun i => ?_⟩
  · have hh : t = 0 ∨ t = 1 ∨ t = 2 := by omega
    rcases hh with rfl | rfl | rfl
    · exact ⟨Nat.zero_le _, by rw [n5.1 _ (by omega)]; exact a8, by rw [n5.1 _ (by omega)]; exact a14.trans l1, by rw [n6.1 _ (by omega)]; exact b8, fun v hv => absurd hv (Nat.not_lt_zero v), fun u v _ hv => absurd hv (Nat.not_lt_zero v)⟩
    · exact ⟨Nat.zero_le _, by rw [n5.1 _ (by omega)]; exact a9, by rw [n5.1 _ (by omega)]; exact a15.trans l2, by rw [n6.1 _ (by omega)]; exact b9, fun v hv => absurd hv (Nat.not_lt_zero v), fun u v _ hv => absurd hv (Nat.not_lt_zero v)⟩
    · exact ⟨Nat.zero_le _, by rw [n5.1 _ (by omega)]; exact a10, by rw [n5.1 _ (by omega)]; exact a16.trans l3, by rw [n6.1 _ (by omega)]; exact b10, fun v hv => absurd hv (Nat.not_lt_zero v), fun u v _ hv => absurd hv (Nat.not_lt_zero v)⟩
  · show bt (0 : Int32) i = decide (i < 0)
    rw [b_0, decide_eq_false (by omega)]
end PA
