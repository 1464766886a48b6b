-- deps: 9k
/-! The parser on a text that is right, forward: one operand. -/
def lo (ty : Nat) : Nat := if ty = 0 then 97 else if ty = 1 then 112 else 120
def wid (ty : Nat) : Nat := if ty = 0 then 6 else if ty = 1 then 4 else 2
theorem lo_ok : ∀ ty, ty < 3 → lo ty + wid ty ≤ 123 ∧ 97 ≤ lo ty ∧ wid ty < lim ty := by decide
theorem cN_one {w : Wrd} (h : w.1 = 1) : cN w = lN (w.2 0) := by
  unfold cN
  rw [h]
  show lN (256 * cwd w.2 0 + w.2 0) = _
  rw [show cwd w.2 0 = 0 from rfl, Nat.mul_zero, Nat.zero_add]
theorem kw_big : ∀ j, j < 6 → ∀ y, y < 256 → cN (KW j) ≠ lN y := by decide +kernel
theorem pigeon : ∀ (M N : Nat) (f : Nat → Nat), (∀ v, v < N → f v < M) → (∀ u v, u < v → v < N → f u ≠ f v) → N ≤ M := by
  intro M
  induction M with
  | zero =>
    intro N f h _
    rcases Nat.eq_zero_or_pos N with z | z
    · omega
    · exact absurd (h 0 z) (Nat.not_lt_zero _)
  | succ M ih =>
    intro N f h hi
    by_cases hz : ∃ v, v < N ∧ f v = M
    · obtain ⟨v0, hv, e0⟩ := hz
      have := ih (N - 1) (fun v => if v < v0 then f v else f (v + 1)) (fun v hv1 => by
        by_cases c : v < v0
        · rw [if_pos c]
          have h1 := h v (by omega)
          have h2 := hi v v0 c hv
          omega
        · rw [if_neg c]
          have h1 := h (v + 1) (by omega)
          have h2 := hi v0 (v + 1) (by omega) (by omega)
          omega) (fun u v huv hv1 => by
        by_cases c : v < v0
        · rw [if_pos c, if_pos (by omega)]; exact hi u v huv (by omega)
        · rw [if_neg c]
          by_cases d : u < v0
          · rw [if_pos d]; exact hi u (v + 1) (by omega) (by omega)
          · rw [if_neg d]; exact hi (u + 1) (v + 1) (by omega) (by omega))
      omega
    · have := ih N f (fun v hv => by
        have h1 := h v hv
        have h2 : f v ≠ M := fun z => hz ⟨v, hv, z⟩
        omega) hi
      omega
/-- the names in a table are single letters of its kind -/
def Sv (q : Nat) (c : Wd) : Prop := ∀ ty, ty < 3 → ∀ N, N ≤ 16 → c.1 (q + 1 + 2 * ty) 2 = nI N → ∀ v, v < N → ∃ x, x < wid ty ∧ c.2.1 (q + 2 + 2 * ty) v = lN (lo ty + x)
section FW
variable {T : Nat → Nat} {n s e k a q ty cnt v o i s' e' k' x : Nat} {N : Nat → Nat} {W : Nat → Nat → Wrd} {P : PK} {K : CK} {c0 m0 c c' d m m' r w : Wd} {st : Nat}
theorem Sv.fn (hq : PC q) (h : Sv q c) (f : FnC c c') : Sv q c' := fun ty ht N hN hc v hv => by
  have hq4 : 4 ≤ q := by rcases hq with rfl | rfl <;> omega
  rw [f.1 _ (by omega)] at hc
  rw [f.2.2.1 _ (by omega)]
  exact h ty ht N hN hc v hv
theorem Sv.of (h : Sv q c) (h1 : ∀ ty, ty < 3 → c'.1 (q + 1 + 2 * ty) 2 = c.1 (q + 1 + 2 * ty) 2) (h2 : ∀ ty, ty < 3 → c'.2.1 (q + 2 + 2 * ty) = c.2.1 (q + 2 + 2 * ty)) : Sv q c' := fun ty ht N hN hc v hv => by
  rw [h1 ty ht] at hc
  rw [h2 ty ht]
  exact h ty ht N hN hc v hv
theorem c_op (hq : PC q) (ht : ty < 3) (hst : st < 6) (h : JB q T n s e 1 N W P K c0 m0 c m) (hS : Sv q c) (hse : e = s + 1) (hx : x < wid ty) (hTs : T s = lo ty + x) (hdup : st = 5 → ty = 1 → ∀ v, v < N 1 → cN (W 1 v) = cN (wd T s e) → bt (fs P) v = false) (htok : Tok T n e s' e' k') :
    ∃ v c', f_X5_readOperand c 1 q (nI st) (nI ty) = some (nI v, c') ∧ c'.1 1 7 = 0 ∧ Sv q c' ∧ FiC q ty c c' ∧ c'.2.1 (q + 2 + 2 * ty) v = lN (lo ty + x) ∧ LxC T s' e' k' c' ∧ v < 16 := by
  have hq4 : 4 ≤ q := by rcases hq with rfl | rfl <;> omega
  obtain ⟨f1, f2, hL, hE, hTb, ⟨e0, e1, e2⟩, ⟨hF1, hF2, hF3⟩, hK, hP, hC, hen⟩ := id h
  obtain ⟨hc, hm, lc, lm, se, en, k3, kz, kok, kn⟩ := id hL
  obtain ⟨t1, t2, t3, t4, t5, t6⟩ := hTb ty ht
  have hlo := lo_ok ty ht
  have h16 := lim_le ty
  have hw1 : (wd T s e).1 = 1 := by show e - s = 1; omega
  have hcn : cN (wd T s e) = lN (lo ty + x) := by rw [cN_one hw1]; show lN (T (s + 0)) = _; rw [Nat.add_zero, hTs]
  have hnm : nmq 1 (wd T s e) = true := by
    refine (nmq_kw _ _).mpr ⟨rfl, ?_⟩
    unfold kwR
    refine if_neg fun z => ?_
    obtain ⟨j, hj, hz⟩ := exb_iff.mp z.2
    exact kw_big j hj (lo ty + x) (by omega) ((of_decide_eq_true hz).symm.trans hcn)
  have hsv := hS ty ht (N ty) (by omega) t2
  unfold f_X5_readOperand
  rw [if_neg (show ¬ nI ty = (3 : Int32) from k_no (b := 3) (by omega) (by omega) (by omega)), c_nameTok hL, Option.bind_some, hnm, if_neg (by decide), namesOf_ty hq ht, lc.2.2.2 rfl, c_numberOf hq ht t2 t3 t1 (fun v hv => (t5 v hv).2.1)]
  by_cases hf : exb (fq (W ty) (wd T s e)) (N ty) = true
  · obtain ⟨y1, y2, y3⟩ := fstb_ok hf
    rw [if_pos hf, Option.bind_some]
    dsimp only
    rw [if_neg (n_m1 (by omega)), if_neg (show ¬ ((nI st = (5 : Int32) ∧ nI ty = (1 : Int32)) ∧ f_X6_isFunction c q (nI (fstb (fq (W ty) (wd T s e)) (N ty))) = true) from fun z => by
      have e5 : st = 5 := (n_eq (b := 5) (by omega) (by omega)).mp z.1.1
      have e1 : ty = 1 := (n_eq (b := 1) (by omega) (by omega)).mp z.1.2
      subst e1
      have := hdup e5 rfl _ y1 (of_decide_eq_true y2)
      have z2 := z.2
      unfold f_X6_isFunction at z2
      rw [cont_bt (by omega), hF1, this] at z2
      cases z2)]
    obtain ⟨c', s2, e2', k2, n1, n2, n3, n4⟩ := c_next hc lc.1 en
    obtain ⟨rfl, rfl, rfl⟩ := Tok.uniq n2 htok
    rw [n1, Option.bind_some, Option.bind_some, Option.bind_some]
    refine ⟨_, c', rfl, by rw [n4.2.1 7 (by omega) (by omega) (by omega)]; exact hE.1, hS.fn hq n4, FnC.fi hq n4, ?_, n3, by omega⟩
    rw [n4.2.2.1 _ (by omega), (t5 _ y1).2.1, ← hcn]
    exact of_decide_eq_true y2
  · rw [if_neg hf]
    have hlt : N ty < lim ty := by
      have := pigeon (wid ty) (N ty) (fun v => if hv : v < N ty then (hsv v hv).choose else 0) (fun v hv => by
        rw [dif_pos hv]; exact (hsv v hv).choose_spec.1) (fun u v huv hv => by
        rw [dif_pos hv, dif_pos (show u < N ty by omega)]
        intro z
        have a1 := (hsv u (by omega)).choose_spec.2
        have a2 := (hsv v hv).choose_spec.2
        rw [z] at a1
        exact t6 u v huv hv (((t5 u (by omega)).2.1.symm.trans (a1.trans a2.symm)).trans (t5 v hv).2.1))
      omega
    rw [if_pos hlt, Option.bind_some]
    generalize hc2 : wsI (wsL c (q + 2 + 2 * ty) (N ty) (cN (wd T s e))) (q + 1 + 2 * ty) 2 (nI (N ty + 1)) = c2
    have a1 : ∀ p, p ≠ q + 1 + 2 * ty → c2.1 p = c.1 p := fun p hp => by rw [← hc2, wsI_o _ _ _ hp]; rfl
    have a2 : ∀ j, j ≠ 2 → c2.1 (q + 1 + 2 * ty) j = c.1 (q + 1 + 2 * ty) j := fun j hj => by rw [← hc2, wsI_s, upd_o hj]; rfl
    have a3 : c2.1 (q + 1 + 2 * ty) 2 = nI (N ty + 1) := by rw [← hc2, wsI_s, upd_s]
    have a4 : ∀ p, p ≠ q + 2 + 2 * ty → c2.2.1 p = c.2.1 p := fun p hp => by rw [← hc2]; exact wsL_o _ _ _ hp
    have a5 : ∀ v, c2.2.1 (q + 2 + 2 * ty) v = if v = N ty then cN (wd T s e) else c.2.1 (q + 2 + 2 * ty) v := fun v => by
      rw [← hc2]
      show (wsL c (q + 2 + 2 * ty) (N ty) (cN (wd T s e))).2.1 (q + 2 + 2 * ty) v = _
      rw [wsL_s]
      by_cases z : v = N ty
      · rw [z, updL_s, if_pos rfl]
      · rw [updL_o z, if_neg z]
    have a6 : c2.2.2 = c.2.2 := by rw [← hc2]; rfl
    have tc : TxC T n c2 := ⟨hc.1, by rw [a1 1 (by omega)]; exact hc.2.1, fun j hj => by rw [a1 2 (by omega)]; exact hc.2.2 j hj⟩
    have hS2 : Sv q c2 := fun t ht2 M hM hcM v hv => by
      by_cases z : t = ty
      · subst z
        rw [a3] at hcM
        have hM2 : N t + 1 = M := (n_eq (by omega) (by omega)).mp hcM
        rw [a5]
        by_cases y : v = N t
        · rw [if_pos y]; exact ⟨x, hx, hcn⟩
        · rw [if_neg y]; exact hsv v (by omega)
      · rw [a1 _ (by omega)] at hcM
        rw [a4 _ (by omega)]
        exact hS t ht2 M hM hcM v hv
    dsimp only
    rw [if_neg (n_m1 (by omega)), if_neg (show ¬ ((nI st = (5 : Int32) ∧ nI ty = (1 : Int32)) ∧ f_X6_isFunction c2 q (nI (N ty)) = true) from fun z => by
      have e5 : st = 5 := (n_eq (b := 5) (by omega) (by omega)).mp z.1.1
      have e1' : ty = 1 := (n_eq (b := 1) (by omega) (by omega)).mp z.1.2
      subst e1'
      have hb : bt (fs P) (N 1) = false := by
        cases y : bt (fs P) (N 1) with
        | false => rfl
        | true => have := (hP.2.2.2 _ y).1; omega
      have z2 := z.2
      unfold f_X6_isFunction at z2
      rw [cont_bt (by omega), a1 q (by omega), hF1, hb] at z2
      cases z2)]
    obtain ⟨c', s2, e2', k2, n1, n2, n3, n4⟩ := c_next tc (by rw [a1 1 (by omega)]; exact lc.1) en
    obtain ⟨rfl, rfl, rfl⟩ := Tok.uniq n2 htok
    rw [n1, Option.bind_some, Option.bind_some, Option.bind_some]
    refine ⟨_, c', rfl, by rw [n4.2.1 7 (by omega) (by omega) (by omega), a1 1 (by omega)]; exact hE.1, hS2.fn hq n4, FiC.trans ⟨fun p _ p2 => a1 p p2, a2, fun j _ _ _ _ => by rw [a1 1 (by omega)], fun p _ p2 => a4 p p2, a6⟩ (FnC.fi hq n4), ?_, n3, by omega⟩
    rw [n4.2.2.1 _ (by omega), a5, if_pos rfl]
    exact hcn
theorem fwd_op (hq : PC q) (ht : ty < 3) (hst : st < 6) (h : JB q T n s e 1 N W P K c0 m0 c m) (hS : Sv q c) (hse : e = s + 1) (hx : x < wid ty) (hTs : T s = lo ty + x) (hdup : st = 5 → ty = 1 → ∀ v, v < N 1 → cN (W 1 v) = cN (wd T s e) → bt (fs P) v = false) (htok : Tok T n e s' e' k') :
    ∃ v N' W' P' c' m', f_X5_readOperand c 1 q (nI st) (nI ty) = some (nI v, c') ∧ v < N' ty ∧ (∀ t, t < 3 → N t ≤ N' t) ∧ (fs P' = fs P ∧ pr P' = pr P ∧ rs P' = rs P) ∧ c'.1 3 = c.1 3 ∧ Sv q c' ∧ FiC q ty c c' ∧ c'.2.1 (q + 2 + 2 * ty) v = lN (lo ty + x) ∧ JB q T n s' e' k' N' W' P' K c0 m0 c' m' := by
  obtain ⟨v, c', b1, b2, b3, b4, b5, b6, b7⟩ := c_op hq ht hst h hS hse hx hTs hdup htok
  obtain ⟨r, c2, m', x1, x2, x3, x4⟩ := both_op hq ht hst h (fun z5 z1 _ => hdup z5 z1)
  have he := Option.some.inj (b1.symm.trans x1)
  have he1 : nI v = r := congrArg Prod.fst he
  have he2 : c' = c2 := congrArg Prod.snd he
  subst he2
  rcases x4 with ⟨y1, y2, y3, y4⟩ | ⟨u, N', W', P', s2, e2, k2, y1, y2, y3, y4, y5, y6, y7⟩
  · exact absurd b2 y3.ne.1
  · have hl := y7.2.2.1.2.2.1
    have hfit := y7.fit
    have hf2 := htok.fit
    have hen := h.fit
    have hle : e' ≤ n := by
      rcases htok with ⟨r1, (r2 | r2 | r2)⟩
      · omega
      · exact r2.2.2.1.2.1
      · omega
    have q1 : e2 = e' := (n_eq (by omega) (by omega)).mp (hl.1.symm.trans b6.1)
    have q2 : s2 = s' := (n_eq (by omega) (by omega)).mp (hl.2.1.symm.trans b6.2.1)
    have q3 : k2 = k' := (n_eq (by omega) (by omega)).mp (hl.2.2.1.symm.trans b6.2.2.1)
    subst q1 q2 q3
    have hlim := (y7.2.2.2.2.1 ty ht).1
    have h16 := lim_le ty
    have hu : v = u := (n_eq (by omega) (by omega)).mp (he1.trans y1)
    subst hu
    exact ⟨v, N', W', P', c', m', b1, y3, y4, y5, x2, b3, b4, b5, y7⟩
end FW
