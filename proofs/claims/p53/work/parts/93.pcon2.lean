/-! The three operands of a constraint, by class and reference. -/
/-- after the operands: an error, or the three numbers stand in cell 3 and in the reference's row -/
def OpsR (q : Nat) (T : Nat → Nat) (n e kk : Nat) (N : Nat → Nat) (P : PK) (K : CK) (c0 m0 c' m' : Wd) : Prop :=
  (FpC q c0 c' ∧ FpM m0 m' ∧ Er c' m') ∨ (∃ v0 v1 v2 N' W' P' s' e' k' m2, m' = wsI m2 11 0 (nI (nc K + 1)) ∧ JB q T n s' e' k' N' W' P' K c0 m0 c' m2 ∧ e ≤ s' ∧ v0 < N' 0 ∧ v1 < N' (t1 kk) ∧ (t2 kk < 3 → v2 < N' (t2 kk)) ∧
    c'.1 3 0 = nI v0 ∧ c'.1 3 1 = nI v1 ∧ c'.1 3 2 = opV (t2 kk) v2 ∧ m2.1 11 (2 + 4 * nc K) = nI kk ∧ m2.1 11 (3 + 4 * nc K) = nI v0 ∧ m2.1 11 (4 + 4 * nc K) = nI v1 ∧ m2.1 11 (5 + 4 * nc K) = opV (t2 kk) v2)
section PN2
variable {T : Nat → Nat} {n s e k a q ty cnt v o i j : Nat} {N : Nat → Nat} {W : Nat → Nat → Wrd} {P : PK} {K : CK} {c0 m0 c c' d m m' r w : Wd} {st kk : Nat} {y x : Int32}
theorem op_ty0 : ∀ k, k < 5 → opT (k * 3 + 0) = nI 0 := by decide
theorem op_ty1 : ∀ k, k < 5 → opT (k * 3 + 1) = nI (t1 k) ∧ t1 k < 3 := by decide
theorem op_ty2 : ∀ k, k < 5 → opT (k * 3 + 2) = nI (t2 k) ∧ t2 k ≤ 3 := by decide
theorem JB.n30 (h : JB q T n s e k N W P K c0 m0 c m) : nc K ≤ 30 := h.2.2.2.2.2.2.2.2.2.1.1
theorem JB.err0 (h : JB q T n s e k N W P K c0 m0 c m) : c.1 1 7 = 0 ∧ m.1 0 8 = 0 := h.2.2.2.1
theorem rd11 : rdI zM w ((zrf zM (0) 19)) (0 : Int32) = some (w.1 11 0) := rdI_M (j := 0) (show 0 < 122 by omega)
/-- a third operand, which may be nothing -/
theorem both_op3 (hq : PC q) (ht : ty ≤ 3) (hst : st < 5) (h : JB q T n s e k N W P K c0 m0 c m) : ∃ r c' m', f_X5_readOperand c 1 q (nI st) (nI ty) = some (r, c') ∧ c'.1 3 = c.1 3 ∧ m'.1 11 = m.1 11 ∧
    ((FpC q c0 c' ∧ FpM m0 m' ∧ Er c' m' ∧ ∃ y, mop3 ty m = some (y, m')) ∨ (∃ v N' W' P' s' e' k', r = opV ty v ∧ mop3 ty m = some (opV ty v, m') ∧ (ty < 3 → v < N' ty) ∧ (∀ t, t < 3 → N t ≤ N' t) ∧ e ≤ e' ∧ (k' = k ∧ s' = s ∧ e' = e ∨ e ≤ s') ∧ JB q T n s' e' k' N' W' P' K c0 m0 c' m')) := by
  by_cases h3 : ty = 3
  · subst h3
    refine ⟨-2, c, m, ?_, rfl, rfl, Or.inr ⟨0, N, W, P, s, e, k, rfl, rfl, fun z => by omega, fun t _ => Nat.le_refl _, Nat.le_refl _, Or.inl ⟨rfl, rfl, rfl⟩, h⟩⟩
    unfold f_X5_readOperand
    rw [if_pos (show nI 3 = (3 : Int32) from rfl)]
  · obtain ⟨r, c', m', x1, x2, x3, x4⟩ := both_op (ty := ty) hq (by omega) (show st < 6 by omega) h (fun z => by omega)
    have hm : mop3 ty m = mop ty m := if_neg h3
    have hv : ∀ v, opV ty v = nI v := fun v => if_neg h3
    refine ⟨r, c', m', x1, x2, x3, ?_⟩
    rw [hm]
    rcases x4 with ⟨y1, y2, y3, y4⟩ | ⟨v, N', W', P', s', e', k', y1, y2, y3, y4, y5, y6, y7⟩
    · exact Or.inl ⟨y1, y2, y3, 0, y4⟩
    · have := y7.2.2.1.2.2.2.2.1
      exact Or.inr ⟨v, N', W', P', s', e', k', by rw [hv]; exact y1, by rw [hv]; exact y2, fun _ => y3, y4, by omega, Or.inr y6, y7⟩
theorem con_ops (hq : PC q) (hk : kk < 5) (hn : nc K < 30) (h : JB q T n s e k N W P K c0 m0 c m) : ∃ c' m', lp (b_X5_readStatement_1 1 (nI kk) q) NF ((0 : Int32), c) = some c' ∧
    Option.bind (rdI zM m ((zrf zM (0) 19)) ((0 : Int32))) (fun x7 => Option.bind (wrI zM m ((zrf zM (0) 19)) (((2 : Int32) + ((4 : Int32) * x7))) (nI kk)) (fun w8 => Option.bind ((f_X10_variable w8 (0))) (fun x9 => ct1 (nI kk) x7 x9))) = some m' ∧ OpsR q T n e kk N P K c0 m0 c' m' := by
  have hNF : NF = 65532 + 1 + 1 + 1 + 1 := rfl
  have hpos : m.1 11 0 = nI (nc K) := h.2.2.2.2.2.2.2.1.2.1
  have ix0 : (2 : Int32) + (4 : Int32) * nI (nc K) = nI (2 + 4 * nc K) := by
    show nI 2 + nI 4 * nI (nc K) = _
    rw [pk_mul, nI_add]
  rw [rd11, Option.bind_some, hpos, ix0, wr11 (by omega), Option.bind_some]
  have o8 : O11 m (wsI m 11 (2 + 4 * nc K) (nI kk)) := (O11.refl m).put
  have h8 : JB q T n s e k N W P K c0 m0 c (wsI m 11 (2 + 4 * nc K) (nI kk)) := h.o11 o8 fun j hj => by rw [wsI_s, upd_o (by omega)]
  have r8 : (wsI m 11 (2 + 4 * nc K) (nI kk)).1 11 (2 + 4 * nc K) = nI kk := by rw [wsI_s, upd_s]
  generalize wsI m 11 (2 + 4 * nc K) (nI kk) = m8 at o8 h8 r8 ⊢
  show ∃ c' m', _ ∧ Option.bind (mop 0 m8) _ = _ ∧ _
  obtain ⟨r0, c1, m1, a1, a2, a3, a4⟩ := both_op (ty := 0) hq (by omega) (show kk < 6 by omega) h8 (fun z => by omega)
  have st0 : b_X5_readStatement_1 1 (nI kk) q (nI 0, c) = _ := c_step (show kk < 6 by omega) (show 0 < 3 by omega) h8.err0.1 (op_ty0 kk hk) a1
  rw [hNF, show ((0 : Int32), c) = (nI 0, c) from rfl, lp_go st0]
  rcases a4 with ⟨f1, f2, f3, f4⟩ | ⟨v0, N1, W1, P1, s1, e1, k1, rfl, f2, f3, f4, f5, f6, f7⟩
  · rw [lp_end (c_stop (Er.w3 f3).ne.1), f4, Option.bind_some]
    obtain ⟨m', g1, g2⟩ := ct1_err (x := 0) (a := nc K) hk hn f3.ne.2 (O11.refl m1)
    exact ⟨_, m', rfl, g1, Or.inl ⟨f1.w3 hq, f2.o11 g2, (f3.w3).o11 g2⟩⟩
  · rw [f2, Option.bind_some]
    have h1 : JB q T n s1 e1 k1 N1 W1 P1 K c0 m0 (wsI c1 3 0 (nI v0)) m1 := f7.w3 hq
    have d0 : (wsI c1 3 0 (nI v0)).1 3 0 = nI v0 := by rw [wsI_s, upd_s]
    generalize wsI c1 3 0 (nI v0) = c1' at h1 d0 ⊢
    have e01 : (((2 : Int32) + ((4 : Int32) * nI (nc K))) + (1 : Int32)) = nI (2 + 4 * nc K + 1) := ix11 (nc K)
    have e02 : (((2 : Int32) + ((4 : Int32) * nI (nc K))) + (2 : Int32)) = nI (2 + 4 * nc K + 2) := ix11 (nc K)
    have e03 : (((2 : Int32) + ((4 : Int32) * nI (nc K))) + (3 : Int32)) = nI (2 + 4 * nc K + 3) := ix11 (nc K)
    unfold ct1
    dsimp only
    rw [e01, wr11 (by omega), Option.bind_some, m_op2 hk]
    have h10 : JB q T n s1 e1 k1 N1 W1 P1 K c0 m0 c1' (wsI m1 11 (2 + 4 * nc K + 1) (nI v0)) := h1.o11 (O11.refl m1).put fun j hj => by rw [wsI_s, upd_o (by omega)]
    have r10 : (wsI m1 11 (2 + 4 * nc K + 1) (nI v0)).1 11 (2 + 4 * nc K) = nI kk ∧ (wsI m1 11 (2 + 4 * nc K + 1) (nI v0)).1 11 (2 + 4 * nc K + 1) = nI v0 := by
      constructor
      · rw [wsI_s, upd_o (by omega), a3]; exact r8
      · rw [wsI_s, upd_s]
    generalize wsI m1 11 (2 + 4 * nc K + 1) (nI v0) = m10 at h10 r10 ⊢
    obtain ⟨r1, c2, m2, b1, b2, b3, b4⟩ := both_op (ty := t1 kk) hq (op_ty1 kk hk).2 (show kk < 6 by omega) h10 (fun z => by omega)
    rw [lp_go (c_step (show kk < 6 by omega) (show 1 < 3 by omega) h10.err0.1 (op_ty1 kk hk).1 b1)]
    rcases b4 with ⟨g1, g2, g3, g4⟩ | ⟨v1, N2, W2, P2, s2, e2, k2, rfl, g2, g3, g4, g5, g6, g7⟩
    · rw [lp_end (c_stop (Er.w3 g3).ne.1), g4, Option.bind_some]
      obtain ⟨m', z1, z2⟩ := ct2_err (x := 0) (a := nc K) hk hn g3.ne.2 (O11.refl m2)
      exact ⟨_, m', rfl, z1, Or.inl ⟨g1.w3 hq, g2.o11 z2, (g3.w3).o11 z2⟩⟩
    · rw [g2, Option.bind_some]
      have h2 : JB q T n s2 e2 k2 N2 W2 P2 K c0 m0 (wsI c2 3 1 (nI v1)) m2 := g7.w3 hq
      have d1 : (wsI c2 3 1 (nI v1)).1 3 0 = nI v0 ∧ (wsI c2 3 1 (nI v1)).1 3 1 = nI v1 := by
        constructor
        · rw [wsI_s, upd_o (by omega), b2]; exact d0
        · rw [wsI_s, upd_s]
      generalize wsI c2 3 1 (nI v1) = c2' at h2 d1 ⊢
      unfold ct2
      dsimp only
      rw [e02, wr11 (by omega), Option.bind_some, m_op3 hk]
      have h20 : JB q T n s2 e2 k2 N2 W2 P2 K c0 m0 c2' (wsI m2 11 (2 + 4 * nc K + 2) (nI v1)) := h2.o11 (O11.refl m2).put fun j hj => by rw [wsI_s, upd_o (by omega)]
      have r20 : (wsI m2 11 (2 + 4 * nc K + 2) (nI v1)).1 11 (2 + 4 * nc K) = nI kk ∧ (wsI m2 11 (2 + 4 * nc K + 2) (nI v1)).1 11 (2 + 4 * nc K + 1) = nI v0 ∧ (wsI m2 11 (2 + 4 * nc K + 2) (nI v1)).1 11 (2 + 4 * nc K + 2) = nI v1 := by
        refine ⟨?_, ?_, ?_⟩
        · rw [wsI_s, upd_o (by omega), b3]; exact r10.1
        · rw [wsI_s, upd_o (by omega), b3]; exact r10.2
        · rw [wsI_s, upd_s]
      generalize wsI m2 11 (2 + 4 * nc K + 2) (nI v1) = m20 at h20 r20 ⊢
      obtain ⟨r2, c3, m3, p1, p2, p3, p4⟩ := both_op3 (ty := t2 kk) hq (op_ty2 kk hk).2 hk h20
      rw [lp_go (c_step (show kk < 6 by omega) (show 2 < 3 by omega) h20.err0.1 (op_ty2 kk hk).1 p1)]
      rcases p4 with ⟨g1, g2, g3, y, g4'⟩ | ⟨v2, N3, W3, P3, s3, e3, k3, rfl, u2, u3, u4, u5, u6, u7⟩
      · rw [lp_end (c_stop (Er.w3 g3).ne.1), g4', Option.bind_some]
        obtain ⟨m', z1, z2⟩ := ct3_ok (x := y) (a := nc K) hn (O11.refl m3)
        exact ⟨_, m', rfl, z1, Or.inl ⟨g1.w3 hq, g2.o11 z2, (g3.w3).o11 z2⟩⟩
      · rw [lp_end c_stop3, u2, Option.bind_some]
        unfold ct3
        dsimp only
        rw [e03, wr11 (by omega), Option.bind_some, rd11, Option.bind_some]
        have h3 : JB q T n s3 e3 k3 N3 W3 P3 K c0 m0 (wsI c3 3 2 (opV (t2 kk) v2)) m3 := u7.w3 hq
        have h30 : JB q T n s3 e3 k3 N3 W3 P3 K c0 m0 (wsI c3 3 2 (opV (t2 kk) v2)) (wsI m3 11 (2 + 4 * nc K + 3) (opV (t2 kk) v2)) := h3.o11 (O11.refl m3).put fun j hj => by rw [wsI_s, upd_o (by omega)]
        have q0 : (wsI m3 11 (2 + 4 * nc K + 3) (opV (t2 kk) v2)).1 11 0 = nI (nc K) := h30.2.2.2.2.2.2.2.1.2.1
        rw [q0, nI_1, show wrI zM (wsI m3 11 (2 + 4 * nc K + 3) (opV (t2 kk) v2)) (zrf zM 0 19) (0 : Int32) (nI (nc K + 1)) = some (wsI (wsI m3 11 (2 + 4 * nc K + 3) (opV (t2 kk) v2)) 11 0 (nI (nc K + 1))) from wr11 (j := 0) (by omega), Option.bind_some]
        have hm1 := g4 0 (by omega)
        have hm2 := u4 0 (by omega)
        have hm3 := u4 (t1 kk) (op_ty1 kk hk).2
        refine ⟨_, _, rfl, rfl, Or.inr ⟨v0, v1, v2, N3, W3, P3, s3, e3, k3, _, rfl, h30, ?_, by omega, by omega, u3, ?_, ?_, ?_, ?_, ?_, ?_, ?_⟩⟩
        · have l1 := f7.2.2.1.2.2.2.2.1
          have l2 := g7.2.2.1.2.2.2.2.1
          rcases u6 with ⟨_, z, _⟩ | z
          · rw [z]; omega
          · omega
        · rw [wsI_s, upd_o (by omega), p2]; exact d1.1
        · rw [wsI_s, upd_o (by omega), p2]; exact d1.2
        · rw [wsI_s, upd_s]
        · rw [wsI_s, upd_o (by omega), p3]; exact r20.1
        · rw [show 3 + 4 * nc K = 2 + 4 * nc K + 1 by omega, wsI_s, upd_o (by omega), p3]; exact r20.2.1
        · rw [show 4 + 4 * nc K = 2 + 4 * nc K + 2 by omega, wsI_s, upd_o (by omega), p3]; exact r20.2.2
        · rw [show 5 + 4 * nc K = 2 + 4 * nc K + 3 by omega, wsI_s, upd_s]
end PN2
