/-! The reference's next token; both together. -/
section MX
variable {T : Nat → Nat} {n s e k a : Nat} {c c' m m' w : Wd}
theorem m_byte (h : TxM T n m) (ha : a ≤ n) : f_X10_byteAt m 0 (nI a) = some (if a < n then nI (T a) else -1) := by
  have hn := h.1
  unfold f_X10_byteAt
  rw [h.2.1]
  by_cases q : a < n
  · rw [if_pos ((n_lt (by omega) (by omega)).mpr q), if_pos q]
    show Option.bind (Option.bind (rdI zM m 1 (nI a)) _) _ = _
    rw [rdI_M (show a < 600 by omega), Option.bind_some, (h.2.2 a q).2, bw_m _ (h.2.2 a q).1]; rfl
  · rw [if_neg (fun z => q ((n_lt (by omega) (by omega)).mp z)), if_neg q]; rfl
theorem m_spaces (h : TxM T n m) (hp : m.1 0 4 = nI s) (hs : s ≤ n) : wp (lp (b_X10_nextToken_1 0) NF m) (fun d => FnM m d ∧ ∃ e, Rnq (spc T) n s e ∧ d.1 0 4 = nI e) := by
  have hn := h.1
  refine lp_meas (fun d => FnM m d ∧ ∃ e, s ≤ e ∧ e ≤ n ∧ (∀ j, s ≤ j → j < e → spc T j = true) ∧ d.1 0 4 = nI e) (fun d => FnM m d ∧ ∃ e, Rnq (spc T) n s e ∧ d.1 0 4 = nI e) (fun d => 1000 - (d.1 0 4).toNatClampNeg) ?_ ⟨FnM.refl m, s, Nat.le_refl s, hs, fun j a b => by omega, hp⟩ (by unfold NF; omega)
  rintro d ⟨hf, e, e1, e2, e3, e4⟩
  have h' := h.keep hf
  unfold b_X10_nextToken_1
  rw [e4, m_byte h' e2, Option.bind_some, Option.bind_some]
  by_cases q : e < n
  · have hT := (h'.2.2 e q).1
    rw [if_pos q]
    cases hsp : spc T e with
    | true =>
      have hr : T e = 32 ∨ T e = 10 := of_decide_eq_true hsp
      have hb : (if nI (T e) = (32 : Int32) then some true else if nI (T e) = (10 : Int32) then some true else some false) = some true := by
        rcases hr with z | z
        · rw [if_pos (show nI (T e) = (32 : Int32) by rw [z]; rfl)]
        · rw [if_neg (show ¬ nI (T e) = (32 : Int32) from k_no (b := 32) (by omega) (by omega) (by omega)), if_pos (show nI (T e) = (10 : Int32) by rw [z]; rfl)]
      rw [hb, Option.bind_some, if_pos rfl, Option.bind_some, wp_some]
      refine ⟨⟨hf.trans (FnM.i (Or.inl rfl)), e + 1, by omega, by omega, fun j a b => ?_, by rw [wsI_s, upd_s]; exact nI_1 e⟩, ?_⟩
      · by_cases z : j = e
        · rw [z]; exact hsp
        · exact e3 j a (by omega)
      · rw [wsI_s, upd_s, nI_1, n_cl (by omega), n_cl (by omega)]
        omega
    | false =>
      have hr : ¬ (T e = 32 ∨ T e = 10) := of_decide_eq_false hsp
      rw [if_neg (show ¬ nI (T e) = (32 : Int32) from k_no (b := 32) (by omega) (by omega) (by omega)), if_neg (show ¬ nI (T e) = (10 : Int32) from k_no (b := 10) (by omega) (by omega) (by omega)), Option.bind_some, if_neg (by decide), wp_some]
      exact ⟨hf, e, ⟨e1, e2, e3, fun _ => hsp⟩, e4⟩
  · rw [if_neg q, if_neg (by decide), if_neg (by decide), Option.bind_some, if_neg (by decide), wp_some]
    exact ⟨hf, e, ⟨e1, e2, e3, fun z => by omega⟩, e4⟩
theorem w64 {b : Nat} (hb : b < 256) : f_X10_within (nI b).toInt64 (97 : Int64) (122 : Int64) = decide (97 ≤ b ∧ b ≤ 122) := by
  have h : ∀ b, b < 256 → f_X10_within (nI b).toInt64 (97 : Int64) (122 : Int64) = decide (97 ≤ b ∧ b ≤ 122) := by decide +kernel
  exact h b hb
theorem or_five {x b : Nat} (hx : x < 2 ^ 30) (hb : 97 ≤ b ∧ b ≤ 122) : jlshl (lN x) (5 : Int32) ||| ((nI b).toInt64 - (96 : Int64)) = lN (32 * x + (b - 96)) := by
  rw [show (nI b).toInt64 - (96 : Int64) = lN (b - 96) from by
    have h : ∀ b, b < 128 → 97 ≤ b → (nI b).toInt64 - (96 : Int64) = lN (b - 96) := by decide +kernel
    exact h b (by omega) hb.1]
  unfold jlshl
  rw [show (5 : Int32) = nI 5 from rfl, wb_shl _ (by omega), wb_or (by omega) (by omega)]
  congr 1
  rw [Nat.mul_comm x, show (2 : Nat) ^ 5 = 32 from rfl]
  have := Nat.two_pow_add_eq_or_of_lt (i := 5) (show b - 96 < 2 ^ 5 by omega) x
  exact this.symm
theorem m_letters (h : TxM T n m) (hp : m.1 0 5 = nI s) (h4 : m.1 0 4 = nI s) (hs : s ≤ n) (hw : m.2.1 0 7 = 0) : wp (lp (b_X10_nextToken_2 0) NF m) (fun d => FnM m d ∧ d.1 0 4 = nI s ∧ ∃ e, Rnq (ltr T) n s e ∧ d.1 0 5 = nI e ∧ (e - s ≤ 6 → d.2.1 0 7 = mN (wd T s e))) := by
  have hn := h.1
  refine lp_meas (fun d => FnM m d ∧ d.1 0 4 = nI s ∧ ∃ e, s ≤ e ∧ e ≤ n ∧ (∀ j, s ≤ j → j < e → ltr T j = true) ∧ d.1 0 5 = nI e ∧ (e - s ≤ 6 → d.2.1 0 7 = mN (wd T s e))) (fun d => FnM m d ∧ d.1 0 4 = nI s ∧ ∃ e, Rnq (ltr T) n s e ∧ d.1 0 5 = nI e ∧ (e - s ≤ 6 → d.2.1 0 7 = mN (wd T s e))) (fun d => 1000 - (d.1 0 5).toNatClampNeg) ?_ ⟨FnM.refl m, h4, s, Nat.le_refl s, hs, fun j a b => by omega, hp, fun _ => by
    unfold mN wd
    rw [hw, Nat.sub_self]; rfl⟩ (by unfold NF; omega)
  rintro d ⟨hf, h5, e, e1, e2, e3, e4, e5⟩
  have h' := h.keep hf
  unfold b_X10_nextToken_2
  rw [e4, m_byte h' e2, Option.bind_some]
  by_cases q : e < n
  · have hT := (h'.2.2 e q).1
    rw [if_pos q, w64 hT]
    cases hsp : ltr T e with
    | true =>
      have hr : 97 ≤ T e ∧ T e ≤ 122 := of_decide_eq_true hsp
      rw [if_pos (show decide _ = true from hsp), h5, show nI e - nI s = nI (e - s) from pk_sub e1, Option.bind_some]
      have hx : ∀ y : Int64, (e + 1 - s ≤ 6 → y = mN (wd T s (e + 1))) → wp (Option.bind (some (wsL d 0 7 y)) fun w29 => Option.bind (some (wsI w29 0 5 (w29.1 0 5 + 1))) fun w30 => some (Sum.inl w30 : Wd ⊕ Wd)) (lpS (fun d' => (FnM m d' ∧ d'.1 0 4 = nI s ∧ ∃ e, s ≤ e ∧ e ≤ n ∧ (∀ j, s ≤ j → j < e → ltr T j = true) ∧ d'.1 0 5 = nI e ∧ (e - s ≤ 6 → d'.2.1 0 7 = mN (wd T s e))) ∧ 1000 - (d'.1 0 5).toNatClampNeg < 1000 - (nI e).toNatClampNeg) (fun d' => FnM m d' ∧ d'.1 0 4 = nI s ∧ ∃ e, Rnq (ltr T) n s e ∧ d'.1 0 5 = nI e ∧ (e - s ≤ 6 → d'.2.1 0 7 = mN (wd T s e)))) := by
        intro y hy
        rw [Option.bind_some, Option.bind_some, wp_some]
        have q5 : (wsI (wsL d 0 7 y) 0 5 ((wsL d 0 7 y).1 0 5 + 1)).1 0 5 = nI (e + 1) := by
          rw [wsI_s, upd_s]; exact (congrArg (· + 1) e4).trans (nI_1 e)
        refine ⟨⟨(hf.trans FnM.l).trans (FnM.i (Or.inr (Or.inl rfl))), by rw [wsI_s, upd_o (by omega)]; exact h5, e + 1, by omega, by omega, fun j a b => ?_, q5, fun z => ?_⟩, ?_⟩
        · by_cases z : j = e
          · rw [z]; exact hsp
          · exact e3 j a (by omega)
        · show vp_updL (d.2.1 0) 7 y 7 = _
          rw [updL_s]; exact hy z
        · rw [q5, n_cl (by omega), n_cl (by omega)]
          omega
      by_cases h6 : e - s < 6
      · rw [if_pos (show nI (e - s) < (6 : Int32) from (n_lt (b := 6) (by omega) (by omega)).mpr h6), Option.bind_some]
        refine hx _ fun _ => ?_
        have hx2 : mwd (wd T s e).2 (wd T s e).1 < 2 ^ 30 := (wd_ok (n := e) (T := T) ⟨e1, Nat.le_refl e, e3, fun z => by omega⟩ (by omega)).m
        rw [e5 (by omega)]
        show jlshl (lN (mwd (wd T s e).2 (wd T s e).1)) 5 ||| ((nI (T e)).toInt64 - 96) = _
        rw [or_five hx2 hr]
        unfold mN
        show lN (32 * mwd (fun i => T (s + i)) (e - s) + (T e - 96)) = lN (mwd (fun i => T (s + i)) (e + 1 - s))
        rw [show e + 1 - s = (e - s) + 1 by omega, mwd, show s + (e - s) = e by omega]
      · rw [if_neg (show ¬ nI (e - s) < (6 : Int32) from fun z => h6 ((n_lt (b := 6) (by omega) (by omega)).mp z)), Option.bind_some]
        exact hx _ fun z => by omega
    | false =>
      rw [if_neg (show ¬ decide _ = true from fun z => by rw [show decide (97 ≤ T e ∧ T e ≤ 122) = false from hsp] at z; cases z), wp_some]
      exact ⟨hf, h5, e, ⟨e1, e2, e3, fun _ => hsp⟩, e4, e5⟩
  · rw [if_neg q, if_neg (by decide), wp_some]
    exact ⟨hf, h5, e, ⟨e1, e2, e3, fun z => by omega⟩, e4, e5⟩
theorem m_next {e0 : Nat} (h : TxM T n m) (hp : m.1 0 5 = nI e0) (he : e0 ≤ n) : ∃ m' s e k, f_X10_nextToken m 0 = some m' ∧ Tok T n e0 s e k ∧ LxM T s e k m' ∧ FnM m m' := by
  have hn := h.1
  suffices g : wp (f_X10_nextToken m 0) (fun c' => ∃ s e k, Tok T n e0 s e k ∧ LxM T s e k c' ∧ FnM m c') by
    obtain ⟨c', a, s, e, k, b⟩ := g
    exact ⟨c', s, e, k, a, b⟩
  unfold f_X10_nextToken
  rw [Option.bind_some, hp, wp_bind]
  have f0 : FnM m (wsI m 0 4 (nI e0)) := FnM.i (Or.inl rfl)
  refine wp_mono (m_spaces (h.keep f0) (s := e0) (by rw [wsI_s, upd_s]) he) ?_
  rintro d ⟨f1, s, hs, hd⟩
  have f1 := f0.trans f1
  have hd' := h.keep f1
  obtain ⟨s1, s2, s3, s4⟩ := id hs
  rw [hd, m_byte hd' s2, Option.bind_some, Option.bind_some, Option.bind_some, Option.bind_some]
  have f2 : FnM m (wsL (wsI (wsI d 0 5 (nI s + 1)) 0 6 3) 0 7 0) := ((f1.trans (FnM.i (Or.inr (Or.inl rfl)))).trans (FnM.i (Or.inr (Or.inr rfl)))).trans FnM.l
  have x4 : (wsL (wsI (wsI d 0 5 (nI s + 1)) 0 6 3) 0 7 0).1 0 4 = nI s := by
    show (wsI (wsI d 0 5 (nI s + 1)) 0 6 3).1 0 4 = _
    rw [wsI_s, upd_o (by omega), wsI_s, upd_o (by omega), hd]
  have x5 : (wsL (wsI (wsI d 0 5 (nI s + 1)) 0 6 3) 0 7 0).1 0 5 = nI (s + 1) := by
    show (wsI (wsI d 0 5 (nI s + 1)) 0 6 3).1 0 5 = _
    rw [wsI_s, upd_o (by omega), wsI_s, upd_s]; exact nI_1 s
  have x6 : (wsL (wsI (wsI d 0 5 (nI s + 1)) 0 6 3) 0 7 0).1 0 6 = nI 3 := by
    show (wsI (wsI d 0 5 (nI s + 1)) 0 6 3).1 0 6 = _
    rw [wsI_s, upd_s]; rfl
  have x7 : (wsL (wsI (wsI d 0 5 (nI s + 1)) 0 6 3) 0 7 0).2.1 0 7 = 0 := by rw [wsL_s, updL_s]
  generalize wsL (wsI (wsI d 0 5 (nI s + 1)) 0 6 3) 0 7 0 = w at f2 x4 x5 x6 x7 ⊢
  by_cases q : s < n
  · have hT := (h.2.2 s q).1
    rw [if_pos q, if_neg (n_m1 (by omega))]
    cases hl : ltr T s with
    | true =>
      have hr : 97 ≤ T s ∧ T s ≤ 122 := of_decide_eq_true hl
      rw [if_neg (show ¬ nI (T s) = (59 : Int32) from k_no (b := 59) (by omega) (by omega) (by omega)), w64 hT, if_pos (show decide _ = true from hl), Option.bind_some, x4, wp_bind, wp_bind, wp_bind, wp_bind]
      have f3 : FnM m (wsI w 0 5 (nI s)) := f2.trans (FnM.i (Or.inr (Or.inl rfl)))
      refine wp_mono (m_letters (m := wsI w 0 5 (nI s)) (T := T) (n := n) (s := s) (h.keep f3) (by rw [wsI_s, upd_s]) (by rw [wsI_s, upd_o (by omega), x4]) s2 x7) ?_
      rintro r ⟨g1, g2, e, g3, g4, g5⟩
      rw [Option.bind_some, wp_some, wp_some, wp_some, wp_some]
      refine ⟨s, e, (if e - s ≤ 6 then 1 else 3), ⟨hs, Or.inr (Or.inl ⟨q, hl, g3, rfl⟩)⟩, ⟨by rw [wsI_s, upd_o (by omega), g4], by rw [wsI_s, upd_o (by omega), g2], ?_, fun z => ?_⟩, (f3.trans g1).trans (FnM.i (Or.inr (Or.inr rfl)))⟩
      · have h1 := g3.1
        have h2 := g3.2.1
        rw [wsI_s, upd_s, g2, g4, show nI e - nI s = nI (e - s) from pk_sub h1]
        by_cases z : e - s ≤ 6
        · rw [if_neg (show ¬ (6 : Int32) < nI (e - s) from fun y => by have := (n_lt (a := 6) (by omega) (by omega)).mp y; omega), if_pos z]; rfl
        · rw [if_pos (show (6 : Int32) < nI (e - s) from (n_lt (a := 6) (by omega) (by omega)).mpr (by omega)), if_neg z]; rfl
      · have h6 : e - s ≤ 6 := by
          rcases Nat.lt_or_ge 6 (e - s) with y | y
          · rw [if_neg (by omega)] at z; omega
          · exact y
        exact g5 h6
    | false =>
      have hr : ¬ (97 ≤ T s ∧ T s ≤ 122) := of_decide_eq_false hl
      by_cases z : T s = 59
      · rw [if_pos (show nI (T s) = (59 : Int32) by rw [z]; rfl), Option.bind_some, Option.bind_some, Option.bind_some, wp_some]
        refine ⟨s, s + 1, (if T s = 59 then 2 else 3), ⟨hs, Or.inr (Or.inr ⟨q, hl, rfl, rfl⟩)⟩, ⟨?_, ?_, ?_, fun y => ?_⟩, f2.trans (FnM.i (Or.inr (Or.inr rfl)))⟩
        · rw [wsI_s, upd_o (by omega), x5]
        · rw [wsI_s, upd_o (by omega), x4]
        · rw [wsI_s, upd_s, if_pos z]; rfl
        · rw [if_pos z] at y; omega
      · rw [if_neg (show ¬ nI (T s) = (59 : Int32) from k_no (b := 59) (by omega) (by omega) z), w64 hT, if_neg (show ¬ decide _ = true from fun z => by rw [show decide (97 ≤ T s ∧ T s ≤ 122) = false from hl] at z; cases z), Option.bind_some, Option.bind_some, Option.bind_some, wp_some]
        refine ⟨s, s + 1, (if T s = 59 then 2 else 3), ⟨hs, Or.inr (Or.inr ⟨q, hl, rfl, rfl⟩)⟩, ⟨x5, x4, ?_, fun y => ?_⟩, f2⟩
        · rw [x6, if_neg z]
        · rw [if_neg z] at y; omega
  · rw [if_neg q, if_pos rfl, Option.bind_some, Option.bind_some, Option.bind_some, wp_some]
    refine ⟨s, s, 0, ⟨hs, Or.inl ⟨by omega, rfl, rfl⟩⟩, ⟨by rw [wsI_s, upd_o (by omega), wsI_s, upd_s, x4], by rw [wsI_s, upd_o (by omega), wsI_s, upd_o (by omega), x4], by rw [wsI_s, upd_s]; rfl, fun z => by omega⟩, (f2.trans (FnM.i (Or.inr (Or.inl rfl)))).trans (FnM.i (Or.inr (Or.inr rfl)))⟩
/-- class and reference at the same token -/
def LX (T : Nat → Nat) (n s e k : Nat) (c m : Wd) : Prop := TxC T n c ∧ TxM T n m ∧ LxC T s e k c ∧ LxM T s e k m ∧ s ≤ e ∧ e ≤ n ∧ k ≤ 3 ∧ (k ≠ 0 → s < e) ∧ (k = 1 → WOK (wd T s e)) ∧ (k = 0 → s = n)
theorem Tok.fit {e0 : Nat} (h : Tok T n e0 s e k) : e0 ≤ s ∧ s ≤ e ∧ e ≤ n ∧ k ≤ 3 ∧ (k ≠ 0 → s < e) ∧ (k = 1 → WOK (wd T s e)) ∧ (k = 0 → s = n) := by
  obtain ⟨a1, a2, a3, a4⟩ := h.1
  rcases h.2 with ⟨a, b, c⟩ | ⟨a, b, c, d⟩ | ⟨a, b, c, d⟩
  · exact ⟨a1, by omega, by omega, by omega, fun z => by omega, fun z => by omega, fun _ => a⟩
  · have c1 := c.1
    have c2 := c.2.1
    have hlt : s < e := by
      rcases Nat.lt_or_ge s e with z | z
      · exact z
      · have : s = e := by omega
        subst this
        rw [c.2.2.2 a] at b; cases b
    refine ⟨a1, by omega, by omega, by split at d <;> omega, fun z => by omega, fun z => ?_, fun z => by split at d <;> omega⟩
    refine wd_ok c ?_
    rcases Nat.lt_or_ge 6 (e - s) with y | y
    · rw [if_neg (by omega)] at d; omega
    · exact y
  · refine ⟨a1, by omega, by omega, by split at d <;> omega, fun z => by omega, fun z => by split at d <;> omega, fun z => by split at d <;> omega⟩
theorem both_next {e0 : Nat} (hc : TxC T n c) (hm : TxM T n m) (h1 : c.1 1 3 = nI e0) (h2 : m.1 0 5 = nI e0) (he : e0 ≤ n) : ∃ c' m' s e k, f_X5_nextToken c 1 = some c' ∧ f_X10_nextToken m 0 = some m' ∧ LX T n s e k c' m' ∧ e0 ≤ s ∧ FnC c c' ∧ FnM m m' := by
  obtain ⟨c', s, e, k, a1, a2, a3, a4⟩ := c_next hc h1 he
  obtain ⟨m', s', e', k', b1, b2, b3, b4⟩ := m_next hm h2 he
  obtain ⟨r1, r2, r3⟩ := a2.uniq b2
  subst r1; subst r2; subst r3
  obtain ⟨g1, g2, g3, g4, g5, g6, g7⟩ := a2.fit
  exact ⟨c', m', s, e, k, a1, b1, ⟨hc.keep a4, hm.keep b4, a3, b3, g2, g3, g4, g5, g6, g7⟩, g1, a4, b4⟩
end MX
