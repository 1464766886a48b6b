/-! A constraint's statement. -/
def t1 (k : Nat) : Nat := if k = 0 then 1 else if k = 3 then 2 else 0
def t2 (k : Nat) : Nat := if k = 2 then 2 else if k = 3 ∨ k = 4 then 0 else 3
def mop3 (t : Nat) (w : Wd) : Option (Int32 × Wd) := if t = 3 then some (-2, w) else mop t w
def opV (t v : Nat) : Int32 := if t = 3 then -2 else nI v
def ct3 (y : Int32) (x22 : Int32 × Wd) : Option Wd := Option.bind (wrI zM x22.2 ((zrf zM (0) 19)) ((((2 : Int32) + ((4 : Int32) * y)) + (3 : Int32))) (x22.1)) (fun w31 => Option.bind (rdI zM w31 ((zrf zM (0) 19)) ((0 : Int32))) (fun x32 => Option.bind (wrI zM w31 ((zrf zM (0) 19)) ((0 : Int32)) ((x32 + (1 : Int32)))) (fun w33 => some (w33))))
def ct2 (k : Int32) (y : Int32) (x12 : Int32 × Wd) : Option Wd := Option.bind (wrI zM x12.2 ((zrf zM (0) 19)) ((((2 : Int32) + ((4 : Int32) * y)) + (2 : Int32))) (x12.1)) (fun w20 => Option.bind (if k = (2 : Int32) then Option.bind ((f_X10_field w20 (0))) (fun x30 => some (x30.1, x30.2)) else Option.bind (if (k = (3 : Int32)) ∨ (k = (4 : Int32)) then Option.bind ((f_X10_variable w20 (0))) (fun x29 => some (x29.1, x29.2)) else some ((-2 : Int32), w20)) (fun x25 => some (x25.1, x25.2))) (fun x22 => ct3 y x22))
def ct1 (k : Int32) (y : Int32) (x9 : Int32 × Wd) : Option Wd := Option.bind (wrI zM x9.2 ((zrf zM (0) 19)) ((((2 : Int32) + ((4 : Int32) * y)) + (1 : Int32))) (x9.1)) (fun w10 => Option.bind (if k = (0 : Int32) then Option.bind ((f_X10_object w10 (0))) (fun x19 => some (x19.1, x19.2)) else Option.bind (if k = (3 : Int32) then Option.bind ((f_X10_field w10 (0))) (fun x18 => some (x18.1, x18.2)) else Option.bind ((f_X10_variable w10 (0))) (fun x17 => some (x17.1, x17.2))) (fun x15 => some (x15.1, x15.2))) (fun x12 => ct2 k y x12))
section PN
variable {T : Nat → Nat} {n s e k a q ty cnt v o i j : Nat} {N : Nat → Nat} {W : Nat → Nat → Wrd} {P : PK} {K : CK} {c0 m0 c c' d m m' r w : Wd} {st : Nat} {y x : Int32}
theorem bind_eta (f : Option (Int32 × Wd)) : Option.bind f (fun p => some (p.1, p.2)) = f := by
  cases f with
  | none => rfl
  | some p => rfl
theorem m_op2 {kk : Nat} (hk : kk < 5) : (if nI kk = (0 : Int32) then Option.bind ((f_X10_object w (0))) (fun x19 => some (x19.1, x19.2)) else Option.bind (if nI kk = (3 : Int32) then Option.bind ((f_X10_field w (0))) (fun x18 => some (x18.1, x18.2)) else Option.bind ((f_X10_variable w (0))) (fun x17 => some (x17.1, x17.2))) (fun x15 => some (x15.1, x15.2))) = mop (t1 kk) w := by
  rw [bind_eta, bind_eta, bind_eta, bind_eta]
  by_cases h0 : kk = 0
  · rw [if_pos (show nI kk = (0 : Int32) by rw [h0]; rfl), h0]; rfl
  · rw [if_neg (show ¬ nI kk = (0 : Int32) from k_no (b := 0) (by omega) (by omega) h0)]
    by_cases h3 : kk = 3
    · rw [if_pos (show nI kk = (3 : Int32) by rw [h3]; rfl), h3]; rfl
    · rw [if_neg (show ¬ nI kk = (3 : Int32) from k_no (b := 3) (by omega) (by omega) h3)]
      unfold t1
      rw [if_neg h0, if_neg h3]; rfl
theorem m_op3 {kk : Nat} (hk : kk < 5) : (if nI kk = (2 : Int32) then Option.bind ((f_X10_field w (0))) (fun x30 => some (x30.1, x30.2)) else Option.bind (if (nI kk = (3 : Int32)) ∨ (nI kk = (4 : Int32)) then Option.bind ((f_X10_variable w (0))) (fun x29 => some (x29.1, x29.2)) else some ((-2 : Int32), w)) (fun x25 => some (x25.1, x25.2))) = mop3 (t2 kk) w := by
  rw [bind_eta, bind_eta, bind_eta]
  by_cases h2 : kk = 2
  · rw [if_pos (show nI kk = (2 : Int32) by rw [h2]; rfl), h2]; rfl
  · rw [if_neg (show ¬ nI kk = (2 : Int32) from k_no (b := 2) (by omega) (by omega) h2)]
    by_cases h34 : kk = 3 ∨ kk = 4
    · rw [if_pos (show nI kk = (3 : Int32) ∨ nI kk = (4 : Int32) from h34.elim (fun z => Or.inl (by rw [z]; rfl)) (fun z => Or.inr (by rw [z]; rfl)))]
      unfold t2
      rw [if_neg h2, if_pos h34]; rfl
    · rw [if_neg (show ¬ (nI kk = (3 : Int32) ∨ nI kk = (4 : Int32)) from fun z => z.elim (k_no (b := 3) (by omega) (by omega) (by omega)) (k_no (b := 4) (by omega) (by omega) (by omega)))]
      unfold t2
      rw [if_neg h2, if_neg h34]; rfl
theorem mop_err (h0 : m.1 0 8 ≠ 0) (t : Nat) : mop t m = some (0, m) := by
  unfold mop
  by_cases a : t = 0
  · rw [if_pos a]
    show Option.bind (f_X10_identifier m 0 _ _ _) _ = _
    rw [m_ident_err h0]; rfl
  · rw [if_neg a]
    by_cases b : t = 1
    · rw [if_pos b]
      show Option.bind (rdI zM m (2 + 1) (1 : Int32)) (fun x1 => Option.bind (f_X10_identifier m 0 _ _ _) (fun x2 => Option.bind (Option.bind (rdI zM x2.2 (2 + 1) (1 : Int32)) _) _)) = _
      rw [rd_many (by omega), Option.bind_some, m_ident_err h0, Option.bind_some]
      dsimp only
      rw [rd_many (by omega), Option.bind_some, if_neg (fun z => by
        have := Int32.lt_iff_toInt_lt.mp z
        omega)]
      rfl
    · rw [if_neg b]
      show Option.bind (f_X10_identifier m 0 _ _ _) _ = _
      rw [m_ident_err h0]; rfl
theorem mop3_err (h0 : m.1 0 8 ≠ 0) (t : Nat) : ∃ y, mop3 t m = some (y, m) := by
  unfold mop3
  by_cases a : t = 3
  · exact ⟨-2, by rw [if_pos a]⟩
  · exact ⟨0, by rw [if_neg a]; exact mop_err h0 t⟩
theorem wr11 (hj : j < 122) : wrI zM w ((zrf zM (0) 19)) (nI j) x = some (wsI w 11 j x) := wrI_M (show j < 122 from hj)
theorem ix11 (a : Nat) {b : Nat} : (((2 : Int32) + ((4 : Int32) * nI a)) + nI b) = nI (2 + 4 * a + b) := by
  show nI 2 + nI 4 * nI a + nI b = _
  rw [pk_mul, nI_add, nI_add]
/-- only cell 11 changes -/
def O11 (m m' : Wd) : Prop := (∀ p, p ≠ 11 → m'.1 p = m.1 p) ∧ m'.2 = m.2
theorem O11.put (h : O11 m m') : O11 m (wsI m' 11 j x) := ⟨fun p hp => by rw [wsI_o _ _ _ hp]; exact h.1 p hp, h.2⟩
theorem O11.refl (m : Wd) : O11 m m := ⟨fun _ _ => rfl, rfl⟩
theorem ct3_ok (hn : a < 30) (h : O11 m w) : ∃ m', ct3 (nI a) (x, w) = some m' ∧ O11 m m' := by
  unfold ct3
  dsimp only
  rw [show (3 : Int32) = nI 3 from rfl, ix11, wr11 (by omega), Option.bind_some]
  have e : ∀ w : Wd, rdI zM w ((zrf zM (0) 19)) (0 : Int32) = some (w.1 11 0) := fun w => rdI_M (j := 0) (show 0 < 122 by omega)
  rw [e, Option.bind_some, show (0 : Int32) = nI 0 from rfl, wr11 (by omega)]
  exact ⟨_, rfl, h.put.put⟩
theorem ct2_err {kk : Nat} (hk : kk < 5) (hn : a < 30) (h0 : m.1 0 8 ≠ 0) (h : O11 m w) : ∃ m', ct2 (nI kk) (nI a) (x, w) = some m' ∧ O11 m m' := by
  unfold ct2
  dsimp only
  have e2 : (((2 : Int32) + ((4 : Int32) * nI a)) + (2 : Int32)) = nI (2 + 4 * a + 2) := ix11 a
  rw [e2, wr11 (by omega), Option.bind_some, m_op3 hk]
  have hw : O11 m (wsI w 11 (2 + 4 * a + 2) x) := h.put
  obtain ⟨y, e⟩ := mop3_err (m := wsI w 11 (2 + 4 * a + 2) x) (by rw [hw.1 0 (by omega)]; exact h0) (t2 kk)
  rw [e, Option.bind_some]
  exact ct3_ok hn hw
theorem ct1_err {kk : Nat} (hk : kk < 5) (hn : a < 30) (h0 : m.1 0 8 ≠ 0) (h : O11 m w) : ∃ m', ct1 (nI kk) (nI a) (x, w) = some m' ∧ O11 m m' := by
  unfold ct1
  dsimp only
  have e1 : (((2 : Int32) + ((4 : Int32) * nI a)) + (1 : Int32)) = nI (2 + 4 * a + 1) := ix11 a
  rw [e1, wr11 (by omega), Option.bind_some, m_op2 hk]
  have hw : O11 m (wsI w 11 (2 + 4 * a + 1) x) := h.put
  rw [mop_err (m := wsI w 11 (2 + 4 * a + 1) x) (by rw [hw.1 0 (by omega)]; exact h0) (t1 kk), Option.bind_some]
  exact ct2_err hk hn h0 hw
/-! cells that the reading may write -/
theorem FpM.o11 (h : FpM m0 m) (g : O11 m m') : FpM m0 m' := by
  obtain ⟨q1, q2, q3, q4, q5, q6, q7⟩ := h
  exact ⟨fun p p1 p2 p3 p4 p5 => by rw [g.1 p p5]; exact q1 p p1 p2 p3 p4 p5, fun j hj => by rw [g.1 0 (by omega)]; exact q2 j hj, fun p p1 p2 => by rw [g.1 p (by omega)]; exact q3 p p1 p2, fun j hj => by rw [g.1 8 (by omega), g.1 9 (by omega)]; exact q4 j hj, by rw [g.2]; exact q5, by rw [g.2]; exact q6, by rw [g.2]; exact q7⟩
theorem Er.o11 (h : Er c m) (g : O11 m m') : Er c m' := by
  unfold Er at *
  rw [g.1 0 (by omega)]; exact h
theorem LX.o11 (h : LX T n s e k c m) (g : O11 m m') : LX T n s e k c m' := by
  obtain ⟨l1, l2, l3, l4, l5⟩ := h
  refine ⟨l1, ⟨l2.1, by rw [g.1 0 (by omega)]; exact l2.2.1, fun j hj => by rw [g.1 1 (by omega)]; exact l2.2.2 j hj⟩, l3, ?_, l5⟩
  unfold LxM at *
  rw [g.1 0 (by omega), g.2]; exact l4
theorem JB.o11 (h : JB q T n s e k N W P K c0 m0 c m) (g : O11 m m') (g2 : ∀ j, j < 2 + 4 * nc K → m'.1 11 j = m.1 11 j) : JB q T n s e k N W P K c0 m0 c m' := by
  obtain ⟨f1, f2, hL, hE, hT, hN, hF, hK, r⟩ := h
  refine ⟨f1, f2.o11 g, hL.o11 g, ⟨hE.1, by rw [g.1 0 (by omega)]; exact hE.2⟩, fun t ht => ?_, hN, ?_, ?_, r⟩
  · obtain ⟨b1, b2, b3, b4, b5, b6⟩ := hT t ht
    exact ⟨b1, b2, b3, by rw [g.1 _ (by omega)]; exact b4, fun v hv => by rw [g.2]; exact b5 v hv, b6⟩
  · unfold FnR at *
    rw [g.1 8 (by omega), g.1 9 (by omega)]; exact hF
  · obtain ⟨k1, k2, k3⟩ := hK
    exact ⟨k1, by rw [g2 0 (by omega)]; exact k2, fun i hi => by rw [g2 _ (by omega), g2 _ (by omega), g2 _ (by omega), g2 _ (by omega)]; exact k3 i hi⟩
/-- only cell 3 of the class changes -/
theorem FpC.w3 (hq : PC q) (h : FpC q c0 c) : FpC q c0 (wsI c 3 j x) := by
  have hq4 : 4 ≤ q := by rcases hq with rfl | rfl <;> omega
  exact ⟨fun p p1 p2 p3 => by rw [wsI_o _ _ _ p2]; exact h.1 p p1 p2 p3, fun i hi => by rw [wsI_o _ _ _ (by omega)]; exact h.2.1 i hi, h.2.2.1, h.2.2.2.1, fun t ht => by rw [wsI_o _ _ _ (by omega)]; exact h.2.2.2.2 t ht⟩
theorem Er.w3 (h : Er c m) : Er (wsI c 3 j x) m := by
  unfold Er at *
  rw [wsI_o _ _ _ (by omega)]; exact h
theorem JB.w3 (hq : PC q) (h : JB q T n s e k N W P K c0 m0 c m) : JB q T n s e k N W P K c0 m0 (wsI c 3 j x) m := by
  have hq4 : 4 ≤ q := by rcases hq with rfl | rfl <;> omega
  obtain ⟨f1, f2, hL, hE, hT, hN, hF, hK, r⟩ := h
  refine ⟨f1.w3 hq, f2, ?_, ⟨by rw [wsI_o _ _ _ (by omega)]; exact hE.1, hE.2⟩, fun t ht => ?_, hN, ?_, ?_, r⟩
  · obtain ⟨l1, l2, l3, l4, l5⟩ := hL
    refine ⟨⟨l1.1, by rw [wsI_o _ _ _ (by omega)]; exact l1.2.1, fun j hj => by rw [wsI_o _ _ _ (by omega)]; exact l1.2.2 j hj⟩, l2, ?_, l4, l5⟩
    unfold LxC at *
    rw [wsI_o _ _ _ (by omega)]; exact l3
  · obtain ⟨b1, b2, b3, b4, b5, b6⟩ := hT t ht
    exact ⟨b1, by rw [wsI_o _ _ _ (by omega)]; exact b2, by rw [wsI_o _ _ _ (by omega)]; exact b3, b4, b5, b6⟩
  · unfold FnR at *
    rw [wsI_o _ _ _ (by omega), wsI_o _ _ _ (by omega), wsI_o _ _ _ (by omega)]; exact hF
  · unfold LsR RLc at *
    rw [wsI_o _ _ _ (by omega), wsI_o _ _ _ (by omega), wsI_o _ _ _ (by omega), wsI_o _ _ _ (by omega), wsI_o _ _ _ (by omega)]; exact hK
/-! the class's loop over the operands -/
theorem lp_go {σ ρ : Type} {f : σ → Option (σ ⊕ ρ)} {n : Nat} {s s' : σ} (h : f s = some (.inl s')) : lp f (n + 1) s = lp f n s' := by rw [lp, h]
theorem lp_end {σ ρ : Type} {f : σ → Option (σ ⊕ ρ)} {n : Nat} {s : σ} {r : ρ} (h : f s = some (.inr r)) : lp f (n + 1) s = some r := by rw [lp, h]
theorem c_step (hst : st < 6) (hi : i < 3) (hE : c.1 1 7 = 0) (ho : opT (st * 3 + i) = nI ty) (h : f_X5_readOperand c 1 q (nI st) (nI ty) = some (x, c')) : b_X5_readStatement_1 1 (nI st) q (nI i, c) = some (.inl (nI (i + 1), wsI c' 3 i x)) := by
  unfold b_X5_readStatement_1
  dsimp only
  rw [if_pos ⟨show nI i < (3 : Int32) from (n_lt (b := 3) (by omega) (by omega)).mpr hi, hE⟩]
  unfold f_X9_typeAt
  have e : nI st * (3 : Int32) + nI i = nI (st * 3 + i) := by
    show nI st * nI 3 + nI i = _
    rw [pk_mul, nI_add]
  rw [e, rdS_at (by omega) (by omega), Option.bind_some, Option.bind_some, ho, h, Option.bind_some]
  show Option.bind (wrI zC c' 3 (nI i) x) _ = _
  rw [wrI_C (show i < 3 from hi), Option.bind_some, nI_1]
theorem c_stop (hE : c.1 1 7 ≠ 0) : b_X5_readStatement_1 1 y q (x, c) = some (.inr c) := by
  unfold b_X5_readStatement_1
  dsimp only
  rw [if_neg (fun z => hE z.2)]
theorem c_stop3 : b_X5_readStatement_1 1 y q (nI 3, c) = some (.inr c) := by
  unfold b_X5_readStatement_1
  dsimp only
  rw [if_neg (fun z => absurd z.1 (by decide))]
theorem Er.ne (h : Er c m) : c.1 1 7 ≠ 0 ∧ m.1 0 8 ≠ 0 := by
  obtain ⟨o, k, h1, h2, h3, h4, h5, h6⟩ := h
  exact ⟨by rw [h1]; exact fun z => by have := (n_eq (b := 0) (by omega) (by omega)).mp z; omega, by rw [h2]; exact fun z => by have := (n_eq (b := 0) (by omega) (by omega)).mp z; omega⟩
end PN
