/-! One statement, and the whole loop of statements, by class and reference. -/
def PErr (q : Nat) (c0 m0 c m : Wd) : Prop := FpC q c0 c ∧ FpM m0 m ∧ Er c m
/-- the class behind a statement's operands; the reference likewise -/
def ctl (q : Nat) (x1 : Int32) (r9 : Wd) : Option Wd := Option.bind (if ((r9.1 (1) 7) = (0 : Int32)) ∧ (¬ ((r9.1 (1) 4) = (2 : Int32))) then Option.bind ((f_X5_fail r9 (1) ((1 : Int32)))) (fun w20 => some w20) else some r9) (fun s16 => Option.bind (if (s16.1 (1) 7) = (0 : Int32) then Option.bind ((f_X5_accept s16 (1) (q) (x1))) (fun w23 => Option.bind ((f_X5_nextToken w23 (1))) (fun w24 => some w24)) else some s16) (fun s21 => some (s21)))
def mtl (s18 : Wd) : Option (Wd ⊕ Wd) := Option.bind (Option.bind ((f_X10_must s18 (0) ((decide ((s18.1 (0) 6) = (2 : Int32)))) ((1 : Int32)))) (fun x30 => if x30.1 = true then Option.bind ((f_X10_nextToken x30.2 (0))) (fun w32 => some w32) else some x30.2)) (fun s27 => some (.inl s27))
section PL
variable {T : Nat → Nat} {n s e k a q ty cnt v o i j : Nat} {N : Nat → Nat} {W : Nat → Nat → Wrd} {P : PK} {K : CK} {c0 m0 c c' d m m' r w : Wd} {st kk : Nat} {y x : Int32}
/-- what a statement comes to -/
def StR (q : Nat) (T : Nat → Nat) (n s : Nat) (c0 m0 : Wd) (f : Option Wd) (g : Option (Wd ⊕ Wd)) : Prop := ∃ c' m', f = some c' ∧ g = some (.inl m') ∧ (PErr q c0 m0 c' m' ∨ ∃ s' e' k' N' W' P' K', s < s' ∧ JB q T n s' e' k' N' W' P' K' c0 m0 c' m')
theorem tl_err (h : PErr q c0 m0 c m) : StR q T n s c0 m0 (ctl q x c) (mtl m) := by
  have hn := h.2.2.ne
  refine ⟨c, m, ?_, ?_, Or.inl h⟩
  · unfold ctl
    rw [if_neg (fun z => hn.1 z.1), Option.bind_some, if_neg hn.1, Option.bind_some]
  · unfold mtl
    rw [m_must_err hn.2, Option.bind_some]
    rfl
theorem tl_tok (hq : PC q) {mx : Wd} (h : JB q T n s e k N W P K c0 m0 c m) (hk : k ≠ 2) (hx : FpM m0 mx) (h0 : mx.1 0 = m.1 0) : StR q T n a c0 m0 (ctl q x c) (mtl mx) := by
  obtain ⟨f1, f2, hL, hE, hT⟩ := h
  have hE2 : mx.1 0 8 = 0 := by rw [h0]; exact hE.2
  have k3 := hL.2.2.2.2.2.2.1
  have tc : ¬ c.1 1 4 = (2 : Int32) := by rw [hL.2.2.1.2.2.1]; exact k_no (b := 2) (by omega) (by omega) hk
  have tm : ¬ mx.1 0 6 = (2 : Int32) := by rw [h0, hL.2.2.2.1.2.2.1]; exact k_no (b := 2) (by omega) (by omega) hk
  have er := er_of (kk := 1) (c := c) (m := mx) hL.2.2.1.2.1 (by rw [h0]; exact hL.2.2.2.1.2.1) (show s ≤ 600 by have := hL.1.1; have := hL.2.2.2.2.1; have := hL.2.2.2.2.2.1; omega) (by omega)
  refine ⟨_, _, ?_, ?_, Or.inl ⟨f1.fi (ty := 0) hq (by omega) (fi_er hq), hx.fi (ty := 0) (by omega) fm_er, er⟩⟩
  · unfold ctl
    rw [if_pos ⟨hE.1, tc⟩, c_fail1 hL.2.2.1.2.1, Option.bind_some, Option.bind_some, if_neg er.ne.1, Option.bind_some]
  · unfold mtl
    rw [m_must1 hE2, decide_eq_false tm, Option.bind_some]
    rfl
theorem tl_ok (hq : PC q) {ca mx : Wd} (h : JB q T n s e k N W P K c0 m0 c m) (hk : k = 2) (ha : f_X5_accept c 1 q x = some ca) (h0 : mx.1 0 = m.1 0) {P' : PK} {K' : CK} (h' : JB q T n s e k N W P' K' c0 m0 ca mx) (hs : a < e) : StR q T n a c0 m0 (ctl q x c) (mtl mx) := by
  obtain ⟨c2, m2, s2, e2, k2, n1, n2, n3, n4⟩ := h'.next hq
  have tc : c.1 1 4 = (2 : Int32) := by rw [h.2.2.1.2.2.1.2.2.1, hk]; rfl
  have tm : mx.1 0 6 = (2 : Int32) := by rw [h0, h.2.2.1.2.2.2.1.2.2.1, hk]; rfl
  refine ⟨c2, m2, ?_, ?_, Or.inr ⟨s2, e2, k2, N, W, P', K', by omega, n4⟩⟩
  · unfold ctl
    rw [if_neg (fun z => z.2 tc), Option.bind_some, if_pos h.err0.1, ha, Option.bind_some, n1, Option.bind_some, Option.bind_some]
  · unfold mtl
    rw [m_must1 h'.err0.2, decide_eq_true tm, Option.bind_some, if_pos rfl]
    show Option.bind (Option.bind (f_X10_nextToken mx 0) _) _ = _
    rw [n2]; rfl
theorem JB.fit (h : JB q T n s e k N W P K c0 m0 c m) : s ≤ e ∧ e ≤ n ∧ n ≤ 600 ∧ (k ≠ 0 → s < e) ∧ (k = 0 → s = n) ∧ k ≤ 3 := ⟨h.2.2.1.2.2.2.2.1, h.2.2.1.2.2.2.2.2.1, h.2.2.1.1.1, h.2.2.1.2.2.2.2.2.2.2.1, h.2.2.1.2.2.2.2.2.2.2.2.2, h.2.2.1.2.2.2.2.2.2.1⟩
theorem both_statement (hq : PC q) (h : JB q T n s e k N W P K c0 m0 c m) (hk0 : k ≠ 0) : StR q T n s c0 m0 (f_X5_readStatement c 1 q) (b_X10_parse_1 0 m) := by
  have hq4 : 4 ≤ q := by rcases hq with rfl | rfl <;> omega
  obtain ⟨f1, f2, hL, hE, hT, hN, hF, hK, hP, hC, hen⟩ := id h
  have hfit := h.fit
  have hz : m.1 0 6 ≠ (0 : Int32) := by
    rw [hL.2.2.2.1.2.2.1]; exact k_no (b := 0) (by omega) (by omega) hk0
  unfold f_X5_readStatement b_X10_parse_1
  rw [c_keyword hL, if_pos ⟨hE.2, hz⟩, m_keyword hL hE.2, Option.bind_some, Option.bind_some]
  have er := er_of (kk := 1) (c := c) (m := m) hL.2.2.1.2.1 hL.2.2.2.1.2.1 (show s ≤ 600 by omega) (by omega)
  have er3 := er_of (kk := 3) (c := c) (m := m) hL.2.2.1.2.1 hL.2.2.2.1.2.1 (show s ≤ 600 by omega) (by omega)
  rcases kwR_cases k (wd T s e) with z | ⟨j, hj, z, hk1⟩
  · -- no keyword
    rw [z, if_pos rfl, if_neg (by decide), m_must1 hE.2, c_fail1 hL.2.2.1.2.1, Option.bind_some, Option.bind_some, decide_eq_false (by decide)]
    have pe : PErr q c0 m0 (wsI c 1 7 (nI (8 * s + 1))) (wsI (wsI m 0 8 (nI 1)) 0 9 (m.1 0 4)) := ⟨f1.fi (ty := 0) hq (by omega) (fi_er hq), f2.fi (ty := 0) (by omega) fm_er, er⟩
    obtain ⟨c', m', e1, e2, e3⟩ := tl_err (x := 0) (T := T) (n := n) (s := s) pe
    refine ⟨_, _, rfl, ?_, Or.inl pe⟩
    show mtl (wsI (wsI m 0 8 (nI 1)) 0 9 (m.1 0 4)) = _
    unfold mtl
    rw [m_must_err er.ne.2]; rfl
  · rw [z, if_neg (n_m1 (by omega))]
    by_cases h5 : j = 5
    · -- fun
      subst h5
      rw [if_neg (fun y => y.1 rfl), if_pos (show nI 5 = (5 : Int32) from rfl), fun_eq]
      obtain ⟨c1, m1, s1, e1, k1, n1, n2, n3, n4⟩ := h.next hq
      rw [n1, n2, Option.bind_some, Option.bind_some]
      obtain ⟨c2, m2, x1, x2, x3⟩ := fun_ops hq n4
      rw [x1, x2, Option.bind_some, Option.bind_some, Option.bind_some]
      show StR q T n s c0 m0 (ctl q (nI 5) c2) (mtl m2)
      rcases x3 with x3 | ⟨v0, v1, v2, N', W', P', s', e', k', m3, rfl, y2, y3, y4, y5, y6, y7, y8, y9⟩
      · exact tl_err x3
      · obtain ⟨ca, a1, a2⟩ := acc_fun hq y2 y4 y5 y6 y7 y8 y9
        have hx : (wsI (wsI m3 8 (10 + v0) (nI v1)) 9 (10 + v0) (nI v2)).1 0 = m3.1 0 := by rw [wsI_o _ _ _ (by omega), wsI_o _ _ _ (by omega)]
        have l1 := y2.fit
        have l2 := n4.fit
        by_cases hk2 : k' = 2
        · exact tl_ok hq y2 hk2 a1 hx a2 (by omega)
        · exact tl_tok hq y2 hk2 a2.2.1 hx
    · have hj5 : j < 5 := by omega
      have h30 := hC.1
      have hfull : f_X0_isFull c (q + 9) = decide (30 ≤ nc K) := by
        unfold f_X0_isFull
        rw [hK.1.1]
        exact decide_eq_decide.mpr (n_le (a := 30) (by omega) (by omega))
      have hn5 : ¬ nI j = (5 : Int32) := k_no (b := 5) (by omega) (by omega) h5
      rw [if_neg hn5, m_must1 hE.2, decide_eq_true (nI_pos' (by omega)), Option.bind_some]
      rw [show ((true, (if true = true then m else wsI (wsI m 0 8 (nI 1)) 0 9 (m.1 0 4))) : Bool × Wd) = (true, m) from rfl, if_pos (show ((true, m) : Bool × Wd).1 = true from rfl)]
      unfold f_X10_constraint
      dsimp only
      rw [rd11, hK.2.1, Option.bind_some, m_must3 hE.2, Option.bind_some, zp6 hq, hfull]
      by_cases hf : 30 ≤ nc K
      · rw [decide_eq_true hf, if_pos ⟨hn5, rfl⟩, c_fail3 hL.2.2.1.2.1, decide_eq_false (fun y => by have := (n_lt (b := 30) (by omega) (by omega)).mp y; omega), Option.bind_some]
        have pe : PErr q c0 m0 (wsI c 1 7 (nI (8 * s + 3))) (wsI (wsI m 0 8 (nI 3)) 0 9 (m.1 0 4)) := ⟨f1.fi (ty := 0) hq (by omega) (fi_er hq), f2.fi (ty := 0) (by omega) fm_er, er3⟩
        refine ⟨_, _, rfl, ?_, Or.inl pe⟩
        show mtl (wsI (wsI m 0 8 (nI 3)) 0 9 (m.1 0 4)) = _
        unfold mtl
        rw [m_must_err er3.ne.2]; rfl
      · rw [decide_eq_false hf, if_neg (fun y => by cases y.2), decide_eq_true (show nI (nc K) < (30 : Int32) from (n_lt (b := 30) (by omega) (by omega)).mpr (by omega))]
        rw [show ((true, (if true = true then m else wsI (wsI m 0 8 (nI 3)) 0 9 (m.1 0 4))) : Bool × Wd) = (true, m) from rfl, if_neg (show ¬ ¬ ((true, m) : Bool × Wd).1 = true from fun y => y rfl)]
        obtain ⟨c1, m1, s1, e1, k1, n1, n2, n3, n4⟩ := h.next hq
        dsimp only
        rw [n1, n2, Option.bind_some, Option.bind_some]
        obtain ⟨c2, m2, x1, x2, x3⟩ := con_ops (kk := j) hq hj5 (by omega) n4
        have x2' : Option.bind (rdI zM m1 ((zrf zM (0) 19)) ((0 : Int32))) (fun x7 => Option.bind (wrI zM m1 ((zrf zM (0) 19)) (((2 : Int32) + ((4 : Int32) * x7))) (nI j)) (fun w8 => Option.bind ((f_X10_variable w8 (0))) (fun x9 => Option.bind (wrI zM x9.2 ((zrf zM (0) 19)) ((((2 : Int32) + ((4 : Int32) * x7)) + (1 : Int32))) (x9.1)) (fun w10 => Option.bind (if nI j = (0 : Int32) then Option.bind ((f_X10_object w10 (0))) (fun x19 => some (x19.1, x19.2)) else Option.bind (if nI j = (3 : Int32) then Option.bind ((f_X10_field w10 (0))) (fun x18 => some (x18.1, x18.2)) else Option.bind ((f_X10_variable w10 (0))) (fun x17 => some (x17.1, x17.2))) (fun x15 => some (x15.1, x15.2))) (fun x12 => Option.bind (wrI zM x12.2 ((zrf zM (0) 19)) ((((2 : Int32) + ((4 : Int32) * x7)) + (2 : Int32))) (x12.1)) (fun w20 => Option.bind (if nI j = (2 : Int32) then Option.bind ((f_X10_field w20 (0))) (fun x30 => some (x30.1, x30.2)) else Option.bind (if (nI j = (3 : Int32)) ∨ (nI j = (4 : Int32)) then Option.bind ((f_X10_variable w20 (0))) (fun x29 => some (x29.1, x29.2)) else some ((-2 : Int32), w20)) (fun x25 => some (x25.1, x25.2))) (fun x22 => Option.bind (wrI zM x22.2 ((zrf zM (0) 19)) ((((2 : Int32) + ((4 : Int32) * x7)) + (3 : Int32))) (x22.1)) (fun w31 => Option.bind (rdI zM w31 ((zrf zM (0) 19)) ((0 : Int32))) (fun x32 => Option.bind (wrI zM w31 ((zrf zM (0) 19)) ((0 : Int32)) ((x32 + (1 : Int32)))) (fun w33 => some (w33))))))))))) = some m2 := x2
        rw [x1, x2', Option.bind_some, Option.bind_some, Option.bind_some, Option.bind_some]
        show StR q T n s c0 m0 (ctl q (nI j) c2) (mtl m2)
        rcases x3 with x3 | ⟨v0, v1, v2, N', W', P', s', e', k', m3, rfl, y2, y3, y4, y5, y6, y7, y8, y9, z0, z1, z2, z3⟩
        · exact tl_err x3
        · obtain ⟨ca, a1, a2⟩ := acc_con hq hj5 y2 (by omega) y4 y5 y6 y7 y8 y9 z0 z1 z2 z3
          have hx : (wsI m3 11 0 (nI (nc K + 1))).1 0 = m3.1 0 := by rw [wsI_o _ _ _ (by omega)]
          have l1 := y2.fit
          have l2 := n4.fit
          by_cases hk2 : k' = 2
          · exact tl_ok hq y2 hk2 a1 hx a2 (by omega)
          · exact tl_tok hq y2 hk2 a2.2.1 hx
/-- what the whole reading comes to -/
def RdR (q : Nat) (c0 m0 : Wd) (f g : Option Wd) : Prop := ∃ c' m', f = some c' ∧ g = some m' ∧ (PErr q c0 m0 c' m' ∨ ∃ T n s e N W P K, JB q T n s e 0 N W P K c0 m0 c' m')
theorem both_loop (hq : PC q) : ∀ d f1 f2 i s e k N W P K c m, n - s ≤ d → d + 2 ≤ f1 → d + 2 ≤ f2 → i ≤ s → JB q T n s e k N W P K c0 m0 c m → RdR q c0 m0 (lp (b_X5_read_1 1 q) f1 (nI i, c)) (lp (b_X10_parse_1 0) f2 m) := by
  intro d
  induction d with
  | zero =>
    intro f1 f2 i s e k N W P K c m hd h1 h2 hi h
    obtain ⟨g1, rfl⟩ : ∃ g, f1 = g + 1 := ⟨f1 - 1, by omega⟩
    obtain ⟨g2, rfl⟩ : ∃ g, f2 = g + 1 := ⟨f2 - 1, by omega⟩
    have hfit := h.fit
    have hk : k = 0 := by
      rcases Nat.eq_zero_or_pos k with z | z
      · exact z
      · have := hfit.2.2.2.1 (by omega); omega
    subst hk
    refine ⟨c, m, lp_end ?_, lp_end ?_, Or.inr ⟨T, n, s, e, N, W, P, K, h⟩⟩
    · unfold b_X5_read_1
      dsimp only
      rw [if_neg (fun z => z.1.2 (by rw [h.2.2.1.2.2.1.2.2.1]; rfl))]
    · unfold b_X10_parse_1
      rw [if_neg (fun z => z.2 (by rw [h.2.2.1.2.2.2.1.2.2.1]; rfl))]
  | succ d ih =>
    intro f1 f2 i s e k N W P K c m hd h1 h2 hi h
    obtain ⟨g1, rfl⟩ : ∃ g, f1 = g + 1 := ⟨f1 - 1, by omega⟩
    obtain ⟨g2, rfl⟩ : ∃ g, f2 = g + 1 := ⟨f2 - 1, by omega⟩
    have hfit := h.fit
    by_cases hk : k = 0
    · subst hk
      refine ⟨c, m, lp_end ?_, lp_end ?_, Or.inr ⟨T, n, s, e, N, W, P, K, h⟩⟩
      · unfold b_X5_read_1
        dsimp only
        rw [if_neg (fun z => z.1.2 (by rw [h.2.2.1.2.2.1.2.2.1]; rfl))]
      · unfold b_X10_parse_1
        rw [if_neg (fun z => z.2 (by rw [h.2.2.1.2.2.2.1.2.2.1]; rfl))]
    · have hlt := hfit.2.2.2.1 hk
      obtain ⟨c', m', x1, x2, x3⟩ := both_statement hq h hk
      have e1 : b_X5_read_1 1 q (nI i, c) = some (.inl (nI (i + 1), c')) := by
        unfold b_X5_read_1
        dsimp only
        rw [if_pos ⟨⟨show nI i < (600 : Int32) from (n_lt (b := 600) (by omega) (by omega)).mpr (by omega), by rw [h.2.2.1.2.2.1.2.2.1]; exact k_no (b := 0) (by omega) (by omega) hk⟩, h.err0.1⟩, x1, Option.bind_some, nI_1]
      rw [lp_go e1, lp_go x2]
      rcases x3 with x3 | ⟨s', e', k', N', W', P', K', hs, x3⟩
      · obtain ⟨g3, rfl⟩ : ∃ g, g1 = g + 1 := ⟨g1 - 1, by omega⟩
        obtain ⟨g4, rfl⟩ : ∃ g, g2 = g + 1 := ⟨g2 - 1, by omega⟩
        have hn := x3.2.2.ne
        refine ⟨c', m', lp_end ?_, lp_end ?_, Or.inl x3⟩
        · unfold b_X5_read_1
          dsimp only
          rw [if_neg (fun z => hn.1 z.2)]
        · unfold b_X10_parse_1
          rw [if_neg (fun z => hn.2 z.1)]
      · have := x3.fit
        exact ih g1 g2 (i + 1) s' e' k' N' W' P' K' c' m' (by omega) (by omega) (by omega) (by omega) x3
end PL
