-- deps: a2
/-! One statement of a text that is right. -/
section FS
variable {T : Nat → Nat} {n s e k a q ty cnt v o i s' e' k' x x0 x1 x2 s1 e1 s2 e2 s3 e3 s4 e4 s5 e5 k5 j : Nat} {N N' : Nat → Nat} {W W' : Nat → Nat → Wrd} {P P' : PK} {K K' : CK} {c0 m0 c c' d m m' r w : Wd} {st kk : Nat} {y : Int32}
theorem Sv.jb (h : JB q T n s e k N W P K c0 m0 c m) (h' : JB q T n s' e' k' N W P' K' c0 m0 c' m') (hS : Sv q c) : Sv q c' := fun t ht M hM hcM u hu => by
  obtain ⟨a1, a2, a3, a4, a5, a6⟩ := h.2.2.2.2.1 t ht
  obtain ⟨b1, b2, b3, b4, b5, b6⟩ := h'.2.2.2.2.1 t ht
  have h16 := lim_le t
  have e : N t = M := (n_eq (by omega) (by omega)).mp (b2.symm.trans hcM)
  rw [(b5 u (by omega)).2.1, ← (a5 u (by omega)).2.1]
  exact hS t ht (N t) (by omega) a2 u (by omega)
theorem JB.to (hq : PC q) (h : JB q T n s e k N W P K c0 m0 c m) (htok : Tok T n e s' e' k') : ∃ c' m', f_X5_nextToken c 1 = some c' ∧ JB q T n s' e' k' N W P K c0 m0 c' m' := by
  obtain ⟨c', m', s2, e2, k2, n1, n2, n3, n4⟩ := h.next hq
  obtain ⟨c2, s3, e3, k3, x1, x2, x3, x4⟩ := c_next h.2.2.1.1 h.2.2.1.2.2.1.1 h.fit.2.1
  obtain ⟨rfl, rfl, rfl⟩ := Tok.uniq x2 htok
  obtain rfl := Option.some.inj (n1.symm.trans x1)
  have hl := n4.2.2.1.2.2.1
  have hfit := n4.fit
  have hen := h.fit
  have hf2 := x2.fit
  have hle : e3 ≤ n := by
    rcases x2 with ⟨r1, (r2 | r2 | r2)⟩
    · omega
    · exact r2.2.2.1.2.1
    · omega
  have q1 : e2 = e3 := (n_eq (by omega) (by omega)).mp (hl.1.symm.trans x3.1)
  have q2 : s2 = s3 := (n_eq (by omega) (by omega)).mp (hl.2.1.symm.trans x3.2.1)
  have q3 : k2 = k3 := (n_eq (by omega) (by omega)).mp (hl.2.2.1.symm.trans x3.2.2.1)
  subst q1 q2 q3
  exact ⟨c', m', n1, n4⟩
/-- one letter of a kind stands at s -/
def Nm (T : Nat → Nat) (n e0 ty x s e : Nat) : Prop := x < wid ty ∧ T s = lo ty + x ∧ e = s + 1 ∧ Tok T n e0 s e 1
theorem con_fwd (hq : PC q) (hk : kk < 5) (hn : nc K < 30) (h : JB q T n s1 e1 1 N W P K c0 m0 c m) (hS : Sv q c) {ea : Nat} (b0 : Nm T n ea 0 x0 s1 e1) (b1 : Nm T n e1 (t1 kk) x1 s2 e2) (b2 : if t2 kk < 3 then ∃ s3 e3, Nm T n e2 (t2 kk) x2 s3 e3 ∧ Tok T n e3 s4 e4 2 else Tok T n e2 s4 e4 2) :
    ∃ c' m' v0 v1 v2 N' W' P', lp (b_X5_readStatement_1 1 (nI kk) q) NF ((0 : Int32), c) = some c' ∧ JB q T n s4 e4 2 N' W' P' K c0 m0 c' m' ∧ Sv q c' ∧ v0 < N' 0 ∧ v1 < N' (t1 kk) ∧ (t2 kk < 3 → v2 < N' (t2 kk)) ∧ c'.1 3 0 = nI v0 ∧ c'.1 3 1 = nI v1 ∧ c'.1 3 2 = opV (t2 kk) v2 := by
  have hNF : NF = 65532 + 1 + 1 + 1 + 1 := rfl
  have hq4 : 4 ≤ q := by rcases hq with rfl | rfl <;> omega
  have sw : ∀ {c : Wd} {i : Nat} {y : Int32}, Sv q c → Sv q (wsI c 3 i y) := fun h => h.of (fun t _ => by rw [wsI_o _ _ _ (by omega)]) (fun t _ => rfl)
  obtain ⟨v0, N1, W1, P1, c1, m1, a1, a2, a3, a4, a5, a6, a7, a8, h1⟩ := fwd_op (ty := 0) hq (by omega) (show kk < 6 by omega) h hS b0.2.2.1 b0.1 b0.2.1 (fun z => by omega) b1.2.2.2
  rw [hNF, show ((0 : Int32), c) = (nI 0, c) from rfl, lp_go (c_step (show kk < 6 by omega) (show 0 < 3 by omega) h.err0.1 (op_ty0 kk hk) a1)]
  have h1 := h1.w3 hq (j := 0) (x := nI v0)
  have S1 : Sv q (wsI c1 3 0 (nI v0)) := sw a6
  have d0 : (wsI c1 3 0 (nI v0)).1 3 0 = nI v0 := by rw [wsI_s, upd_s]
  generalize wsI c1 3 0 (nI v0) = c1' at h1 d0 S1 ⊢
  by_cases h3 : t2 kk < 3
  · rw [if_pos h3] at b2
    obtain ⟨s3, e3, b2, b3⟩ := b2
    obtain ⟨v1, N2, W2, P2, c2, m2, g1, g2, g3, g4, g5, g6, g7, g8, h2⟩ := fwd_op (ty := t1 kk) hq (op_ty1 kk hk).2 (show kk < 6 by omega) h1 S1 b1.2.2.1 b1.1 b1.2.1 (fun z => by omega) b2.2.2.2
    rw [lp_go (c_step (show kk < 6 by omega) (show 1 < 3 by omega) h1.err0.1 (op_ty1 kk hk).1 g1)]
    have h2 := h2.w3 hq (j := 1) (x := nI v1)
    have S2 : Sv q (wsI c2 3 1 (nI v1)) := sw g6
    have d1 : (wsI c2 3 1 (nI v1)).1 3 0 = nI v0 ∧ (wsI c2 3 1 (nI v1)).1 3 1 = nI v1 := by
      constructor
      · rw [wsI_s, upd_o (by omega), g5]; exact d0
      · rw [wsI_s, upd_s]
    generalize wsI c2 3 1 (nI v1) = c2' at h2 d1 S2 ⊢
    obtain ⟨v2, N3, W3, P3, c3, m3, p1, p2, p3, p4, p5, p6, p7, p8, h3'⟩ := fwd_op (ty := t2 kk) hq h3 (show kk < 6 by omega) h2 S2 b2.2.2.1 b2.1 b2.2.1 (fun z => by omega) b3
    rw [lp_go (c_step (show kk < 6 by omega) (show 2 < 3 by omega) h2.err0.1 (op_ty2 kk hk).1 p1), lp_end c_stop3]
    have u1 := g3 0 (by omega)
    have u2 := p3 0 (by omega)
    have u3 := p3 (t1 kk) (op_ty1 kk hk).2
    refine ⟨_, m3, v0, v1, v2, N3, W3, P3, rfl, h3'.w3 hq, sw p6, by omega, by omega, fun _ => p2, ?_, ?_, ?_⟩
    · rw [wsI_s, upd_o (by omega), p5]; exact d1.1
    · rw [wsI_s, upd_o (by omega), p5]; exact d1.2
    · rw [wsI_s, upd_s]; exact (if_neg (show ¬ t2 kk = 3 by omega)).symm
  · rw [if_neg h3] at b2
    have e3 : t2 kk = 3 := by have := (op_ty2 kk hk).2; omega
    obtain ⟨v1, N2, W2, P2, c2, m2, g1, g2, g3, g4, g5, g6, g7, g8, h2⟩ := fwd_op (ty := t1 kk) hq (op_ty1 kk hk).2 (show kk < 6 by omega) h1 S1 b1.2.2.1 b1.1 b1.2.1 (fun z => by omega) b2
    rw [lp_go (c_step (show kk < 6 by omega) (show 1 < 3 by omega) h1.err0.1 (op_ty1 kk hk).1 g1)]
    have h2 := h2.w3 hq (j := 1) (x := nI v1)
    have S2 : Sv q (wsI c2 3 1 (nI v1)) := sw g6
    have d1 : (wsI c2 3 1 (nI v1)).1 3 0 = nI v0 ∧ (wsI c2 3 1 (nI v1)).1 3 1 = nI v1 := by
      constructor
      · rw [wsI_s, upd_o (by omega), g5]; exact d0
      · rw [wsI_s, upd_s]
    generalize wsI c2 3 1 (nI v1) = c2' at h2 d1 S2 ⊢
    have p1 : f_X5_readOperand c2' 1 q (nI kk) (nI (t2 kk)) = some (-2, c2') := by
      unfold f_X5_readOperand
      rw [if_pos (show nI (t2 kk) = (3 : Int32) by rw [e3]; rfl)]
    rw [lp_go (c_step (show kk < 6 by omega) (show 2 < 3 by omega) h2.err0.1 (op_ty2 kk hk).1 p1), lp_end c_stop3]
    have u1 := g3 0 (by omega)
    refine ⟨_, m2, v0, v1, 0, N2, W2, P2, rfl, h2.w3 hq, sw S2, by omega, g2, fun z => absurd z h3, ?_, ?_, ?_⟩
    · rw [wsI_s, upd_o (by omega)]; exact d1.1
    · rw [wsI_s, upd_o (by omega)]; exact d1.2
    · rw [wsI_s, upd_s]; exact (if_pos e3).symm
/-- behind the operands -/
theorem ctl_fwd (hq : PC q) {ca mx : Wd} (h : JB q T n s e 2 N W P K c0 m0 c m) (ha : f_X5_accept c 1 q y = some ca) (h' : JB q T n s e 2 N W P' K' c0 m0 ca mx) (hS : Sv q c) (htok : Tok T n e s' e' k') : ∃ c' m', ctl q y c = some c' ∧ JB q T n s' e' k' N W P' K' c0 m0 c' m' ∧ Sv q c' := by
  obtain ⟨c', m', n1, n2⟩ := h'.to hq htok
  have tc : c.1 1 4 = (2 : Int32) := by rw [h.2.2.1.2.2.1.2.2.1]; rfl
  refine ⟨c', m', ?_, n2, Sv.jb h n2 hS⟩
  unfold ctl
  rw [if_neg (fun z => z.2 tc), Option.bind_some, if_pos h.err0.1, ha, Option.bind_some, n1, Option.bind_some, Option.bind_some]
theorem st_con (hq : PC q) (hk : kk < 5) (hn : nc K < 30) (h : JB q T n s e 1 N W P K c0 m0 c m) (hkw : kwR 1 (wd T s e) = nI kk) (hS : Sv q c) (b0 : Nm T n e 0 x0 s1 e1) (b1 : Nm T n e1 (t1 kk) x1 s2 e2) (b2 : if t2 kk < 3 then ∃ s3 e3, Nm T n e2 (t2 kk) x2 s3 e3 ∧ Tok T n e3 s4 e4 2 else Tok T n e2 s4 e4 2) (htok : Tok T n e4 s5 e5 k5) :
    ∃ c' m' N' W' P' K', f_X5_readStatement c 1 q = some c' ∧ JB q T n s5 e5 k5 N' W' P' K' c0 m0 c' m' ∧ nc K' = nc K + 1 ∧ Sv q c' := by
  have hK := h.2.2.2.2.2.2.2.1
  have hfull : f_X0_isFull c (q + 9) = false := by
    unfold f_X0_isFull
    rw [hK.1.1]
    exact decide_eq_false fun z => by have := (n_le (a := 30) (by omega) (by omega)).mp z; omega
  unfold f_X5_readStatement
  rw [c_keyword h.2.2.1, Option.bind_some, hkw, if_neg (n_m1 (by omega)), zp6 hq, hfull, if_neg (fun z => by cases z.2)]
  obtain ⟨c1, m1, n1, h1⟩ := h.to hq b0.2.2.2
  have S1 : Sv q c1 := Sv.jb h h1 hS
  rw [n1, Option.bind_some]
  obtain ⟨c2, m2, v0, v1, v2, N', W', P', g1, g2, g3, g4, g5, g6, g7, g8, g9⟩ := con_fwd hq hk hn h1 S1 b0 b1 b2
  rw [g1, Option.bind_some]
  have o1 : O11 m2 (wsI (wsI (wsI (wsI m2 11 (2 + 4 * nc K) (nI kk)) 11 (3 + 4 * nc K) (nI v0)) 11 (4 + 4 * nc K) (nI v1)) 11 (5 + 4 * nc K) (opV (t2 kk) v2)) := ((((O11.refl m2).put).put).put).put
  have h3 := g2.o11 o1 (fun i hi => by rw [wsI_s, upd_o (by omega), wsI_s, upd_o (by omega), wsI_s, upd_o (by omega), wsI_s, upd_o (by omega)])
  obtain ⟨ca, a1, a2⟩ := acc_con hq hk h3 hn g4 g5 g6 g7 g8 g9 (by rw [wsI_s, upd_o (by omega), wsI_s, upd_o (by omega), wsI_s, upd_o (by omega), wsI_s, upd_s]) (by rw [wsI_s, upd_o (by omega), wsI_s, upd_o (by omega), wsI_s, upd_s]) (by rw [wsI_s, upd_o (by omega), wsI_s, upd_s]) (by rw [wsI_s, upd_s])
  obtain ⟨c', m', z1, z2, z3⟩ := ctl_fwd hq g2 a1 a2 g3 htok
  exact ⟨c', m', N', W', P', _, z1, z2, rfl, z3⟩
/-- the functions declared so far are called p -/
def Fp (q : Nat) (c : Wd) : Prop := ∀ v, v < 10 → bt (c.1 q 5) v = true → c.2.1 (q + 4) v = lN 112
theorem st_fun (hq : PC q) (h : JB q T n s e 1 N W P K c0 m0 c m) (hkw : kwR 1 (wd T s e) = nI 5) (hS : Sv q c) (hF : Fp q c) (b0 : Nm T n e 1 x0 s1 e1) (hx0 : (x0 = 0 ∧ fs P = 0) ∨ x0 = 1) (b1 : Nm T n e1 0 x1 s2 e2) (b2 : Nm T n e2 0 x2 s3 e3) (b3 : Tok T n e3 s4 e4 2) (htok : Tok T n e4 s5 e5 k5) :
    ∃ c' m' N' W' P', f_X5_readStatement c 1 q = some c' ∧ JB q T n s5 e5 k5 N' W' P' K c0 m0 c' m' ∧ Sv q c' ∧ (x0 = 0 → Fp q c') := by
  have hNF : NF = 65532 + 1 + 1 + 1 + 1 := rfl
  have hq4 : 4 ≤ q := by rcases hq with rfl | rfl <;> omega
  have sw : ∀ {c : Wd} {i : Nat} {y : Int32}, Sv q c → Sv q (wsI c 3 i y) := fun h => h.of (fun t _ => by rw [wsI_o _ _ _ (by omega)]) (fun t _ => rfl)
  have w0 : opT (5 * 3 + 0) = nI 1 := by decide
  have w1 : opT (5 * 3 + 1) = nI 0 := by decide
  have w2 : opT (5 * 3 + 2) = nI 0 := by decide
  unfold f_X5_readStatement
  rw [c_keyword h.2.2.1, Option.bind_some, hkw, if_neg (n_m1 (by omega)), if_neg (fun z => z.1 rfl)]
  obtain ⟨c1, m1, n1, h1⟩ := h.to hq b0.2.2.2
  have S1 : Sv q c1 := Sv.jb h h1 hS
  rw [n1, Option.bind_some, hNF, show ((0 : Int32), c1) = (nI 0, c1) from rfl]
  have hdup : ∀ v, v < N 1 → cN (W 1 v) = cN (wd T s1 e1) → bt (fs P) v = false := fun v hv hz => by
    rcases hx0 with ⟨z0, z1⟩ | z0
    · rw [z1, b_0]
    · cases hb : bt (fs P) v with
      | false => rfl
      | true =>
        have ht1 := h.2.2.2.2.1 1 (by omega)
        have l1 : lim 1 = 10 := rfl
        have hb' : bt (c.1 q 5) v = true := by rw [h.2.2.2.2.2.2.1.1]; exact hb
        have f1 := hF v (by have := ht1.1; omega) hb'
        have f2 := (ht1.2.2.2.2.1 v hv).2.1
        rw [hz, cN_one (w := wd T s1 e1) (show e1 - s1 = 1 by have := b0.2.2.1; omega)] at f2
        have f3 : lN (T s1) = lN 112 := f2.symm.trans f1
        rw [b0.2.1, z0] at f3
        exact absurd (lN_inj (by decide) (by decide) f3) (by decide)
  obtain ⟨v0, N1, W1, P1, c2, m2, a1, a2, a3, a4, a5, a6, a7, a8, h2⟩ := fwd_op (ty := 1) (st := 5) hq (by omega) (by omega) h1 S1 b0.2.2.1 b0.1 b0.2.1 (fun _ _ => hdup) b1.2.2.2
  rw [lp_go (c_step (show 5 < 6 by omega) (show 0 < 3 by omega) h1.err0.1 w0 a1)]
  have h2 := h2.w3 hq (j := 0) (x := nI v0)
  have S2 : Sv q (wsI c2 3 0 (nI v0)) := sw a6
  have d0 : (wsI c2 3 0 (nI v0)).1 3 0 = nI v0 := by rw [wsI_s, upd_s]
  have r0 : (wsI c2 3 0 (nI v0)).2.1 (q + 4) v0 = lN (112 + x0) := a8
  generalize wsI c2 3 0 (nI v0) = c2' at h2 d0 S2 r0 ⊢
  obtain ⟨v1, N2, W2, P2, c3, m3, g1, g2, g3, g4, g5, g6, g7, g8, h3⟩ := fwd_op (ty := 0) (st := 5) hq (by omega) (by omega) h2 S2 b1.2.2.1 b1.1 b1.2.1 (fun _ z => by omega) b2.2.2.2
  rw [lp_go (c_step (show 5 < 6 by omega) (show 1 < 3 by omega) h2.err0.1 w1 g1)]
  have h3 := h3.w3 hq (j := 1) (x := nI v1)
  have S3 : Sv q (wsI c3 3 1 (nI v1)) := sw g6
  have d1 : (wsI c3 3 1 (nI v1)).1 3 0 = nI v0 ∧ (wsI c3 3 1 (nI v1)).1 3 1 = nI v1 := by
    constructor
    · rw [wsI_s, upd_o (by omega), g5]; exact d0
    · rw [wsI_s, upd_s]
  have r1 : (wsI c3 3 1 (nI v1)).2.1 (q + 4) v0 = lN (112 + x0) := by
    show c3.2.1 (q + 4) v0 = _
    rw [g7.2.2.2.1 (q + 4) (by omega) (by omega)]; exact r0
  generalize wsI c3 3 1 (nI v1) = c3' at h3 d1 S3 r1 ⊢
  obtain ⟨v2, N3, W3, P3, c4, m4, p1, p2, p3, p4, p5, p6, p7, p8, h4⟩ := fwd_op (ty := 0) (st := 5) hq (by omega) (by omega) h3 S3 b2.2.2.1 b2.1 b2.2.1 (fun _ z => by omega) b3
  rw [lp_go (c_step (show 5 < 6 by omega) (show 2 < 3 by omega) h3.err0.1 w2 p1), lp_end c_stop3, Option.bind_some]
  have h4 := h4.w3 hq (j := 2) (x := nI v2)
  have S4 : Sv q (wsI c4 3 2 (nI v2)) := sw p6
  have d2 : (wsI c4 3 2 (nI v2)).1 3 0 = nI v0 ∧ (wsI c4 3 2 (nI v2)).1 3 1 = nI v1 ∧ (wsI c4 3 2 (nI v2)).1 3 2 = nI v2 := by
    refine ⟨?_, ?_, ?_⟩
    · rw [wsI_s, upd_o (by omega), p5]; exact d1.1
    · rw [wsI_s, upd_o (by omega), p5]; exact d1.2
    · rw [wsI_s, upd_s]
  have r2 : (wsI c4 3 2 (nI v2)).2.1 (q + 4) v0 = lN (112 + x0) := by
    show c4.2.1 (q + 4) v0 = _
    rw [p7.2.2.2.1 (q + 4) (by omega) (by omega)]; exact r1
  generalize wsI c4 3 2 (nI v2) = c4' at h4 d2 S4 r2 ⊢
  have u1 := g3 1 (by omega)
  have u2 := p3 1 (by omega)
  have u3 := p3 0 (by omega)
  obtain ⟨ca, q1, q2⟩ := acc_fun hq h4 (by omega) (by omega) p2 d2.1 d2.2.1 d2.2.2
  obtain ⟨c', m', z1, z2, z3⟩ := ctl_fwd hq h4 q1 q2 S4 htok
  refine ⟨c', m', N3, W3, _, z1, z2, z3, fun hx v hv hb => ?_⟩
  have hfs : fs P3 = 0 := by
    rcases hx0 with ⟨_, z⟩ | z
    · rw [p4.1, g4.1, a4.1]; exact z
    · omega
  have f1 := z2.2.2.2.2.2.2.1.1
  have ht1 := h4.2.2.2.2.1 1 (by omega)
  have hz1 := z2.2.2.2.2.1 1 (by omega)
  have l1 : lim 1 = 10 := rfl
  rw [f1] at hb
  have hb : bt (fs P3 ||| jshl 1 (nI v0)) v = true := hb
  have hv0 : v0 < N3 1 := by omega
  rw [b_or, hfs, b_0, Bool.false_or, bt_bit (by have := ht1.1; omega) (by omega)] at hb
  have hv : v = v0 := of_decide_eq_true hb
  subst hv
  have k1 : c'.2.1 (q + 4) v = cN (W3 1 v) := (hz1.2.2.2.2.1 v hv0).2.1
  have k2 : c4'.2.1 (q + 4) v = cN (W3 1 v) := (ht1.2.2.2.2.1 v hv0).2.1
  rw [k1, ← k2, r2, hx]
end FS
