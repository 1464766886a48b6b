/-! The three operands of a function's declaration. -/
def FunR (q : Nat) (T : Nat → Nat) (n e : Nat) (N : Nat → Nat) (P : PK) (K : CK) (c0 m0 c' m' : Wd) : Prop :=
  (FpC q c0 c' ∧ FpM m0 m' ∧ Er c' m') ∨ (∃ v0 v1 v2 N' W' P' s' e' k' m2, m' = wsI (wsI m2 8 (10 + v0) (nI v1)) 9 (10 + v0) (nI v2) ∧ JB q T n s' e' k' N' W' P' K c0 m0 c' m2 ∧ e ≤ s' ∧ v0 < N' 1 ∧ v1 < N' 0 ∧ v2 < N' 0 ∧
    c'.1 3 0 = nI v0 ∧ c'.1 3 1 = nI v1 ∧ c'.1 3 2 = nI v2)
section PF
variable {T : Nat → Nat} {n s e k a q ty cnt v o i j : Nat} {N : Nat → Nat} {W : Nat → Nat → Wrd} {P : PK} {K : CK} {c0 m0 c c' d m m' r w : Wd} {st kk : Nat} {y x : Int32}
theorem m_fnloop (h : JB q T n s e k N W P K c0 m0 c m) : lp (b_X10_function_1 m 0) NF (false, (0 : Int32)) = some (exb (fun o => decide (mN (W 1 o) = m.2.1 0 7) && bt (fs P) o) (N 1)) := by
  obtain ⟨f1, f2, hL, hE, hT, ⟨e0, e1, e2⟩, ⟨hF1, hF2, hF3⟩, hK, hP, hC, hen⟩ := h
  obtain ⟨t1', t2', t3', t4', t5', t6'⟩ := hT 1 (by omega)
  have l1 : lim 1 = 10 := rfl
  refine wp_is ?_
  refine lp_inv (fun i s7 => s7.2 = nI i ∧ s7.1 = exb (fun o => decide (mN (W 1 o) = m.2.1 0 7) && bt (fs P) o) i) (fun r => r = exb (fun o => decide (mN (W 1 o) = m.2.1 0 7) && bt (fs P) o) (N 1)) (N 1) ?_ ?_ (by unfold NF; omega) ⟨rfl, rfl⟩
  · rintro i ⟨b, a⟩ hi ⟨h1, h2⟩
    dsimp only at h1 h2
    subst h1; subst h2
    have ho := hF3 i (by omega)
    have hbig : ∀ o, bt (fs P) o = true → pr P o < 65536 := fun o ho => by have := (hP.2.2.2 o ho).2.1; have := hP.1; omega
    unfold b_X10_function_1
    dsimp only
    show wp (Option.bind (rdI zM m (2 + 1) (1 : Int32)) _) _
    rw [rd_many (by omega), Option.bind_some, t4', if_pos ((n_lt (by omega) (by omega)).mpr hi)]
    have a10 : (10 : Int32) + nI i = nI (10 + i) := nI_add 10 i
    rw [a10]
    show wp (Option.bind (Option.bind (rdL zM m 6 (nI (10 + i))) fun x14 => if x14 = m.2.1 0 7 then Option.bind (rdI zM m 8 (nI (10 + i))) _ else some false) _) _
    rw [rdL_M (show 10 + i < 20 by omega), Option.bind_some, rdI_M (show 10 + i < 20 by omega)]
    have ew : m.2.1 6 (10 + i) = mN (W 1 i) := (t5' i hi).2.2
    rw [ew]
    have fin : ∀ b : Bool, b = (decide (mN (W 1 i) = m.2.1 0 7) && bt (fs P) i) → wp (Option.bind (some b) fun b12 => some (Sum.inl (exb (fun o => decide (mN (W 1 o) = m.2.1 0 7) && bt (fs P) o) i || b12, nI i + 1))) (lpS (fun s7 : Bool × Int32 => s7.2 = nI (i + 1) ∧ s7.1 = exb (fun o => decide (mN (W 1 o) = m.2.1 0 7) && bt (fs P) o) (i + 1)) (fun r : Bool => r = exb (fun o => decide (mN (W 1 o) = m.2.1 0 7) && bt (fs P) o) (N 1))) := by
      intro b hb
      rw [Option.bind_some, wp_some]
      exact ⟨nI_1 i, by rw [hb]; rfl⟩
    by_cases z : mN (W 1 i) = m.2.1 0 7
    · rw [if_pos z, Option.bind_some]
      cases hb : bt (fs P) i with
      | true =>
        rw [(ho.1 hb).1, if_pos (n_m2 (hbig i hb))]
        exact fin true (by rw [decide_eq_true z, hb]; rfl)
      | false =>
        rw [(ho.2 hb).1, if_neg (fun y => y rfl)]
        exact fin false (by rw [hb, Bool.and_false])
    · rw [if_neg z]
      exact fin false (by rw [decide_eq_false z]; rfl)
  · rintro ⟨b, a⟩ ⟨h1, h2⟩
    dsimp only at h1 h2
    subst h1; subst h2
    unfold b_X10_function_1
    dsimp only
    show wp (Option.bind (rdI zM m (2 + 1) (1 : Int32)) _) _
    rw [rd_many (by omega), Option.bind_some, t4', if_neg (fun z => Nat.lt_irrefl _ ((n_lt (by omega) (by omega)).mp z)), wp_some]
    rfl
/-- the reference's declaration behind its first token -/
def fnt (w1 : Wd) : Option Wd := Option.bind (if (w1.1 (0) 6) = (1 : Int32) then Option.bind ((f_X10_keyword w1 (0))) (fun x6 => if x6 < (0 : Int32) then some true else some false) else some false) (fun b3 => Option.bind (lp (b_X10_function_1 w1 0) NF (false, (0 : Int32))) (fun r8 => Option.bind (if b3 = true then Option.bind ((f_X10_must w1 (0) ((decide (¬ (r8 = true)))) ((2 : Int32)))) (fun x22 => if x22.1 = true then some (false, x22.2) else some (true, x22.2)) else some (false, w1)) (fun b17 => if b17.1 = true then some (b17.2) else Option.bind ((f_X10_object b17.2 (0))) (fun x23 => Option.bind ((f_X10_variable x23.2 (0))) (fun x24 => Option.bind ((f_X10_variable x24.2 (0))) (fun x25 => if ¬ ((x25.2.1 (0) 8) = (0 : Int32)) then some (x25.2) else Option.bind (wrI zM x25.2 ((zrf zM (0) 16)) (((10 : Int32) + x23.1)) (x24.1)) (fun w27 => Option.bind (wrI zM w27 ((zrf zM (0) 17)) (((10 : Int32) + x23.1)) (x25.1)) (fun w28 => some (w28)))))))))
theorem fun_eq : f_X10_function m 0 = Option.bind (f_X10_nextToken m 0) fnt := rfl
theorem fun_ops (hq : PC q) (h : JB q T n s e k N W P K c0 m0 c m) : ∃ c' m', lp (b_X5_readStatement_1 1 (nI 5) q) NF ((0 : Int32), c) = some c' ∧ fnt m = some m' ∧ FunR q T n e N P K c0 m0 c' m' := by
  have hNF : NF = 65532 + 1 + 1 + 1 + 1 := rfl
  have hq4 : 4 ≤ q := by rcases hq with rfl | rfl <;> omega
  have e0 : opT (5 * 3 + 0) = nI 1 := by decide
  have e1 : opT (5 * 3 + 1) = nI 0 := by decide
  have e2 : opT (5 * 3 + 2) = nI 0 := by decide
  unfold fnt
  rw [m_nameTok h.2.2.1 h.err0.2, m_fnloop h, Option.bind_some, Option.bind_some, m_must2 h.err0.2, hNF, show ((0 : Int32), c) = (nI 0, c) from rfl]
  have hb := h
  obtain ⟨f1, f2, hL, hE, hT, ⟨n0, n1, n2⟩, ⟨hF1, hF2, hF3⟩, hK, hP, hC, hen⟩ := hb
  obtain ⟨hc, hm, lc, lm, se, en, k3, kz, kok, kn⟩ := id hL
  obtain ⟨t1', t2', t3', t4', t5', t6'⟩ := hT 1 (by omega)
  by_cases hd : nmq k (wd T s e) = true ∧ exb (fun o => decide (mN (W 1 o) = m.2.1 0 7) && bt (fs P) o) (N 1) = true
  · -- a second declaration of one function
    obtain ⟨d1, d2⟩ := hd
    have hk1 : k = 1 := ((nmq_kw _ _).mp d1).1
    obtain ⟨o, ho, hz⟩ := exb_iff.mp d2
    rw [Bool.and_eq_true, decide_eq_true_eq] at hz
    have hoc : cN (W 1 o) = cN (wd T s e) := (name_eq (t5' o ho).1 (kok hk1)).mpr (hz.1.trans (lm.2.2.2 hk1))
    have hf : fstb (fq (W 1) (wd T s e)) (N 1) = o := fstb_uniq ho (decide_eq_true hoc) fun j hj => by
      refine decide_eq_false fun y => t6' j o hj ho (y.trans hoc.symm)
    have hcl : f_X5_readOperand c 1 q (nI 5) (nI 1) = some (nI o, wsI c 1 7 (nI (8 * s + 2))) := by
      unfold f_X5_readOperand
      rw [if_neg (by decide), c_nameTok hL, Option.bind_some, d1, if_neg (by decide), namesOf_ty hq (by omega), lc.2.2.2 hk1, c_numberOf hq (by omega) t2' t3' t1' (fun v hv => (t5' v hv).2.1), if_pos (exb_iff.mpr ⟨o, ho, decide_eq_true hoc⟩), hf, Option.bind_some]
      dsimp only
      have l1 : lim 1 = 10 := rfl
      rw [if_neg (n_m1 (by omega)), if_pos (show (nI 5 = (5 : Int32) ∧ nI 1 = (1 : Int32)) ∧ f_X6_isFunction c q (nI o) = true from ⟨⟨rfl, rfl⟩, by
        unfold f_X6_isFunction
        rw [cont_bt (by omega), hF1]; exact hz.2⟩), c_fail2 lc.2.1, Option.bind_some, Option.bind_some, Option.bind_some]
    rw [lp_go (c_step (show 5 < 6 by omega) (show 0 < 3 by omega) hE.1 e0 hcl)]
    have er := er_of (kk := 2) lc.2.1 lm.2.1 (show s ≤ 600 by have := hc.1; omega) (by omega)
    rw [lp_end (c_stop (Er.w3 er).ne.1), d1, d2, if_pos rfl, Option.bind_some]
    refine ⟨_, _, rfl, rfl, Or.inl ⟨FpC.w3 hq (f1.fi (ty := 0) hq (by omega) (fi_er hq)), f2.fi (ty := 0) (by omega) fm_er, er.w3⟩⟩
  · have href : (if nmq k (wd T s e) = true then Option.bind (some (decide (¬ exb (fun o => decide (mN (W 1 o) = m.2.1 0 7) && bt (fs P) o) (N 1) = true), if decide (¬ exb (fun o => decide (mN (W 1 o) = m.2.1 0 7) && bt (fs P) o) (N 1) = true) = true then m else wsI (wsI m 0 8 (nI 2)) 0 9 (m.1 0 4))) fun x22 => if x22.1 = true then some (false, x22.2) else some (true, x22.2) else some (false, m)) = some (false, m) := by
      by_cases z : nmq k (wd T s e) = true
      · have hn : ¬ exb (fun o => decide (mN (W 1 o) = m.2.1 0 7) && bt (fs P) o) (N 1) = true := fun y => hd ⟨z, y⟩
        rw [if_pos z, decide_eq_true hn]; rfl
      · rw [if_neg z]
    rw [href, Option.bind_some, if_neg (show ¬ ((false, m) : Bool × Wd).1 = true from fun z => by cases z)]
    show ∃ c' m', _ ∧ Option.bind (mop 1 m) _ = _ ∧ _
    obtain ⟨r0, c1, m1, a1, a2, a3, a4⟩ := both_op (ty := 1) hq (by omega) (show 5 < 6 by omega) h (fun _ _ z v hv hz => by
      cases y : bt (fs P) v with
      | false => rfl
      | true =>
        have hk1 : k = 1 := ((nmq_kw _ _).mp z).1
        refine absurd ⟨z, exb_iff.mpr ⟨v, hv, ?_⟩⟩ hd
        rw [Bool.and_eq_true, decide_eq_true_eq]
        exact ⟨((name_eq (t5' v hv).1 (kok hk1)).mp hz).trans (lm.2.2.2 hk1).symm, y⟩)
    rw [lp_go (c_step (show 5 < 6 by omega) (show 0 < 3 by omega) h.err0.1 e0 a1)]
    rcases a4 with ⟨f1, f2, f3, f4⟩ | ⟨v0, N1, W1, P1, s1, e1', k1, rfl, f2, f3, f4, f5, f6, f7⟩
    · have mv : ∀ w : Wd, w.1 0 8 ≠ 0 → f_X10_variable w 0 = some (0, w) := fun w hw => mop_err hw 0
      rw [lp_end (c_stop (Er.w3 f3).ne.1), f4, Option.bind_some]
      dsimp only
      rw [mv m1 f3.ne.2, Option.bind_some]
      dsimp only
      rw [mv m1 f3.ne.2, Option.bind_some]
      dsimp only
      rw [if_pos f3.ne.2]
      exact ⟨_, m1, rfl, rfl, Or.inl ⟨f1.w3 hq, f2, f3.w3⟩⟩
    · rw [f2, Option.bind_some]
      have h1 : JB q T n s1 e1' k1 N1 W1 P1 K c0 m0 (wsI c1 3 0 (nI v0)) m1 := f7.w3 hq
      have d0 : (wsI c1 3 0 (nI v0)).1 3 0 = nI v0 := by rw [wsI_s, upd_s]
      generalize wsI c1 3 0 (nI v0) = c1' at h1 d0 ⊢
      dsimp only
      show ∃ c' m', _ ∧ Option.bind (mop 0 m1) _ = _ ∧ _
      obtain ⟨r1, c2, m2, b1, b2, b3, b4⟩ := both_op (ty := 0) hq (by omega) (show 5 < 6 by omega) h1 (fun _ z => by omega)
      rw [lp_go (c_step (show 5 < 6 by omega) (show 1 < 3 by omega) h1.err0.1 e1 b1)]
      rcases b4 with ⟨g1, g2, g3, g4⟩ | ⟨v1, N2, W2, P2, s2, e2', k2, rfl, g2, g3, g4, g5, g6, g7⟩
      · have mv : ∀ w : Wd, w.1 0 8 ≠ 0 → f_X10_variable w 0 = some (0, w) := fun w hw => mop_err hw 0
        rw [lp_end (c_stop (Er.w3 g3).ne.1), g4, Option.bind_some]
        dsimp only
        rw [mv m2 g3.ne.2, Option.bind_some]
        dsimp only
        rw [if_pos g3.ne.2]
        exact ⟨_, m2, rfl, rfl, Or.inl ⟨g1.w3 hq, g2, g3.w3⟩⟩
      · rw [g2, Option.bind_some]
        have h2 : JB q T n s2 e2' k2 N2 W2 P2 K c0 m0 (wsI c2 3 1 (nI v1)) m2 := g7.w3 hq
        have d1 : (wsI c2 3 1 (nI v1)).1 3 0 = nI v0 ∧ (wsI c2 3 1 (nI v1)).1 3 1 = nI v1 := by
          constructor
          · rw [wsI_s, upd_o (by omega), b2]; exact d0
          · rw [wsI_s, upd_s]
        generalize wsI c2 3 1 (nI v1) = c2' at h2 d1 ⊢
        dsimp only
        show ∃ c' m', _ ∧ Option.bind (mop 0 m2) _ = _ ∧ _
        obtain ⟨r2, c3, m3, p1, p2, p3, p4⟩ := both_op (ty := 0) hq (by omega) (show 5 < 6 by omega) h2 (fun _ z => by omega)
        rw [lp_go (c_step (show 5 < 6 by omega) (show 2 < 3 by omega) h2.err0.1 e2 p1)]
        rcases p4 with ⟨g1, g2, g3, g4⟩ | ⟨v2, N3, W3, P3, s3, e3', k3, rfl, u2, u3, u4, u5, u6, u7⟩
        · rw [lp_end (c_stop (Er.w3 g3).ne.1), g4, Option.bind_some]
          dsimp only
          rw [if_pos g3.ne.2]
          exact ⟨_, m3, rfl, rfl, Or.inl ⟨g1.w3 hq, g2, g3.w3⟩⟩
        · rw [lp_end c_stop3, u2, Option.bind_some]
          dsimp only
          rw [if_neg (fun z => z u7.err0.2)]
          have l1 : lim 1 = 10 := rfl
          have lim1 := (u7.2.2.2.2.1 1 (by omega)).1
          have hm1 := g4 1 (by omega)
          have hm2 := u4 1 (by omega)
          have hm3 := u4 0 (by omega)
          have a10 : (10 : Int32) + nI v0 = nI (10 + v0) := nI_add 10 v0
          rw [a10]
          show ∃ c' m', _ ∧ Option.bind (wrI zM m3 8 (nI (10 + v0)) _) _ = _ ∧ _
          rw [wrI_M (show 10 + v0 < 20 by omega), Option.bind_some]
          show ∃ c' m', _ ∧ Option.bind (wrI zM _ 9 (nI (10 + v0)) _) _ = _ ∧ _
          rw [wrI_M (show 10 + v0 < 20 by omega), Option.bind_some]
          have l1 := f7.2.2.1.2.2.2.2.1
          have l2 := g7.2.2.1.2.2.2.2.1
          refine ⟨_, _, rfl, rfl, Or.inr ⟨v0, v1, v2, N3, W3, P3, s3, e3', k3, m3, rfl, u7.w3 hq, by omega, by omega, by omega, by omega, ?_, ?_, ?_⟩⟩
          · rw [wsI_s, upd_o (by omega), p2]; exact d1.1
          · rw [wsI_s, upd_o (by omega), p2]; exact d1.2
          · rw [wsI_s, upd_s]
end PF
