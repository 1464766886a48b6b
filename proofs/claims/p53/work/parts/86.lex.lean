/-! The text, and the next token, of class and reference. -/
theorem bw_sp : ∀ b, b < 256 → f_X5_isSpace (jbyte (nI b)) = decide (b = 32 ∨ b = 10) := by decide +kernel
theorem bw_lt : ∀ b, b < 256 → f_X5_isLetter (jbyte (nI b)) = decide (97 ≤ b ∧ b ≤ 122) := by decide +kernel
theorem bw_se : ∀ b, b < 256 → (jbyte (nI b) = 59 ↔ b = 59) := by decide +kernel
theorem bw_id : ∀ b, b < 128 → jbyte (nI b) = nI b := by decide +kernel
theorem bw_m : ∀ b, b < 256 → jbyte (nI b) &&& 255 = nI b := by decide +kernel
theorem byte_twice (y : Int32) : jbyte (jbyte y) = jbyte y := byte_of fun i hi => by
  unfold jbyte bt
  show (y.toInt8.toBitVec.signExtend 32).getLsbD i = _
  rw [BitVec.getLsbD_signExtend, decide_eq_true (show i < 32 by omega), if_pos (show i < 8 by omega), Bool.true_and, Int32.toBitVec_toInt8, BitVec.getLsbD_signExtend, decide_eq_true hi, if_pos (show i < 32 by omega), Bool.true_and]
/-- a byte as a number -/
def byN (x : Int32) : Nat := x.toBitVec.toNat % 256
theorem byN_lt (x : Int32) : byN x < 256 := Nat.mod_lt _ (by decide)
theorem byN_eq {x : Int32} (h : ∃ y, x = jbyte y) : jbyte (nI (byN x)) = x := by
  obtain ⟨y, rfl⟩ := h
  have e : jbyte (nI (byN (jbyte y))) = jbyte (jbyte y) := byte_of fun i hi => by
    rw [bt_nI (by omega)]
    unfold byN
    rw [show (256 : Nat) = 2 ^ 8 from rfl, Nat.testBit_mod_two_pow, decide_eq_true hi, Bool.true_and]
    rfl
  rw [e, byte_twice]
/-- from s on, q holds up to e, which is n or the first where it doesn't -/
def Rnq (q : Nat → Bool) (n s e : Nat) : Prop := s ≤ e ∧ e ≤ n ∧ (∀ j, s ≤ j → j < e → q j = true) ∧ (e < n → q e = false)
theorem Rnq.uniq {q : Nat → Bool} {n s e e' : Nat} (h : Rnq q n s e) (h' : Rnq q n s e') : e = e' := by
  obtain ⟨a, b, c, d⟩ := h
  obtain ⟨a', b', c', d'⟩ := h'
  rcases Nat.lt_trichotomy e e' with z | z | z
  · have := c' e a z; rw [d (by omega)] at this; cases this
  · exact z
  · have := c e' a' z; rw [d' (by omega)] at this; cases this
def spc (T : Nat → Nat) (j : Nat) : Bool := decide (T j = 32 ∨ T j = 10)
def ltr (T : Nat → Nat) (j : Nat) : Bool := decide (97 ≤ T j ∧ T j ≤ 122)
/-- the word from s to e -/
def wd (T : Nat → Nat) (s e : Nat) : Wrd := (e - s, fun i => T (s + i))
def Tok (T : Nat → Nat) (n e0 s e k : Nat) : Prop := Rnq (spc T) n e0 s ∧ ((s = n ∧ e = s ∧ k = 0) ∨ (s < n ∧ ltr T s = true ∧ Rnq (ltr T) n s e ∧ k = (if e - s ≤ 6 then 1 else 3)) ∨ (s < n ∧ ltr T s = false ∧ e = s + 1 ∧ k = (if T s = 59 then 2 else 3)))
theorem Tok.uniq {T : Nat → Nat} {n e0 s e k s' e' k' : Nat} (h : Tok T n e0 s e k) (h' : Tok T n e0 s' e' k') : s = s' ∧ e = e' ∧ k = k' := by
  have hs := h.1.uniq h'.1
  subst hs
  rcases h.2 with ⟨a, b, c⟩ | ⟨a, b, c, d⟩ | ⟨a, b, c, d⟩
  · rcases h'.2 with ⟨a', b', c'⟩ | ⟨a', b', c', d'⟩ | ⟨a', b', c', d'⟩
    · exact ⟨rfl, by omega, by omega⟩
    · omega
    · omega
  · rcases h'.2 with ⟨a', b', c'⟩ | ⟨a', b', c', d'⟩ | ⟨a', b', c', d'⟩
    · omega
    · have := c.uniq c'
      subst this
      exact ⟨rfl, rfl, by rw [d, d']⟩
    · rw [b] at b'; cases b'
  · rcases h'.2 with ⟨a', b', c'⟩ | ⟨a', b', c', d'⟩ | ⟨a', b', c', d'⟩
    · omega
    · rw [b] at b'; cases b'
    · exact ⟨rfl, by omega, by rw [d, d']⟩
theorem wd_ok {T : Nat → Nat} {n s e : Nat} (h : Rnq (ltr T) n s e) (h6 : e - s ≤ 6) : WOK (wd T s e) := ⟨h6, fun i hi => by
  have hi : i < e - s := hi
  exact of_decide_eq_true (h.2.2.1 (s + i) (by omega) (by omega))⟩
/-- what the next token leaves alone -/
def FnC (c c' : Wd) : Prop := (∀ q, q ≠ 1 → c'.1 q = c.1 q) ∧ (∀ j, j ≠ 3 → j ≠ 4 → j ≠ 5 → c'.1 1 j = c.1 1 j) ∧ (∀ q, q ≠ 1 → c'.2.1 q = c.2.1 q) ∧ c'.2.2 = c.2.2
def FnM (m m' : Wd) : Prop := (∀ q, q ≠ 0 → m'.1 q = m.1 q) ∧ (∀ j, j ≠ 4 → j ≠ 5 → j ≠ 6 → m'.1 0 j = m.1 0 j) ∧ (∀ q, q ≠ 0 → m'.2.1 q = m.2.1 q) ∧ m'.2.2 = m.2.2
theorem FnC.refl (c : Wd) : FnC c c := ⟨fun _ _ => rfl, fun _ _ _ _ => rfl, fun _ _ => rfl, rfl⟩
theorem FnM.refl (c : Wd) : FnM c c := ⟨fun _ _ => rfl, fun _ _ _ _ => rfl, fun _ _ => rfl, rfl⟩
theorem FnC.trans {x y z : Wd} (h : FnC x y) (k : FnC y z) : FnC x z := ⟨fun q a => (k.1 q a).trans (h.1 q a), fun j a b d => (k.2.1 j a b d).trans (h.2.1 j a b d), fun q a => (k.2.2.1 q a).trans (h.2.2.1 q a), k.2.2.2.trans h.2.2.2⟩
theorem FnM.trans {x y z : Wd} (h : FnM x y) (k : FnM y z) : FnM x z := ⟨fun q a => (k.1 q a).trans (h.1 q a), fun j a b d => (k.2.1 j a b d).trans (h.2.1 j a b d), fun q a => (k.2.2.1 q a).trans (h.2.2.1 q a), k.2.2.2.trans h.2.2.2⟩
theorem FnC.i {c : Wd} {j : Nat} {x : Int32} (hj : j = 3 ∨ j = 4 ∨ j = 5) : FnC c (wsI c 1 j x) := ⟨fun q a => wsI_o _ _ _ a, fun i a b d => by rw [wsI_s, upd_o (by omega)], fun _ _ => rfl, rfl⟩
theorem FnM.i {c : Wd} {j : Nat} {x : Int32} (hj : j = 4 ∨ j = 5 ∨ j = 6) : FnM c (wsI c 0 j x) := ⟨fun q a => wsI_o _ _ _ a, fun i a b d => by rw [wsI_s, upd_o (by omega)], fun _ _ => rfl, rfl⟩
theorem FnC.l {c : Wd} {j : Nat} {x : Int64} : FnC c (wsL c 1 j x) := ⟨fun _ _ => rfl, fun _ _ _ _ => rfl, fun q a => wsL_o _ _ _ a, rfl⟩
theorem FnM.l {c : Wd} {j : Nat} {x : Int64} : FnM c (wsL c 0 j x) := ⟨fun _ _ => rfl, fun _ _ _ _ => rfl, fun q a => wsL_o _ _ _ a, rfl⟩
/-- the text of n bytes in class and reference -/
def TxC (T : Nat → Nat) (n : Nat) (c : Wd) : Prop := n ≤ 600 ∧ c.1 1 2 = nI n ∧ ∀ j, j < n → T j < 256 ∧ c.1 2 j = jbyte (nI (T j))
def TxM (T : Nat → Nat) (n : Nat) (m : Wd) : Prop := n ≤ 600 ∧ m.1 0 3 = nI n ∧ ∀ j, j < n → T j < 256 ∧ m.1 1 j = jbyte (nI (T j))
section LX
variable {T : Nat → Nat} {n s e k a : Nat} {c c' m m' w : Wd}
theorem TxC.keep (h : TxC T n c) (k : FnC c c') : TxC T n c' := ⟨h.1, by rw [k.2.1 2 (by omega) (by omega) (by omega)]; exact h.2.1, fun j hj => by rw [k.1 2 (by omega)]; exact h.2.2 j hj⟩
theorem TxM.keep (h : TxM T n m) (k : FnM m m') : TxM T n m' := ⟨h.1, by rw [k.2.1 3 (by omega) (by omega) (by omega)]; exact h.2.1, fun j hj => by rw [k.1 1 (by omega)]; exact h.2.2 j hj⟩
/-! the class -/
theorem c_rd (h : TxC T n c) (ha : a < n) : rdI zC c (zrf zC 1 0) (nI a) = some (jbyte (nI (T a))) := by
  have := h.1
  show rdI zC c 2 (nI a) = _
  rw [rdI_C (show a < 600 by omega), (h.2.2 a ha).2]
theorem c_spaces (h : TxC T n c) (hp : c.1 1 3 = nI s) (hs : s ≤ n) : wp (lp (b_X5_nextToken_1 1) NF c) (fun d => FnC c d ∧ ∃ e, Rnq (spc T) n s e ∧ d.1 1 3 = nI e) := by
  have hn := h.1
  refine lp_meas (fun d => FnC c d ∧ ∃ e, s ≤ e ∧ e ≤ n ∧ (∀ j, s ≤ j → j < e → spc T j = true) ∧ d.1 1 3 = nI e) (fun d => FnC c d ∧ ∃ e, Rnq (spc T) n s e ∧ d.1 1 3 = nI e) (fun d => 1000 - (d.1 1 3).toNatClampNeg) ?_ ⟨FnC.refl c, s, Nat.le_refl s, hs, fun j a b => by omega, hp⟩ (by unfold NF; omega)
  rintro d ⟨hf, e, e1, e2, e3, e4⟩
  have h' := h.keep hf
  unfold b_X5_nextToken_1
  rw [e4, h'.2.1]
  rcases Nat.lt_or_ge e n with q | q
  · rw [if_pos ((n_lt (by omega) (by omega)).mpr q), c_rd h' q, Option.bind_some, bw_sp _ (h'.2.2 e q).1]
    cases hsp : spc T e with
    | true =>
      rw [if_pos (show decide _ = true from hsp), Option.bind_some, if_pos rfl, Option.bind_some, wp_some]
      refine ⟨⟨hf.trans (FnC.i (Or.inl rfl)), e + 1, by omega, by omega, fun j a b => ?_, by rw [wsI_s, upd_s]; exact nI_1 e⟩, ?_⟩
      · by_cases z : j = e
        · rw [z]; exact hsp
        · exact e3 j a (by omega)
      · rw [wsI_s, upd_s, nI_1, n_cl (by omega), n_cl (by omega)]
        omega
    | false =>
      rw [if_neg (show ¬ decide _ = true from fun z => by rw [show decide (T e = 32 ∨ T e = 10) = false from hsp] at z; cases z), Option.bind_some, if_neg (by decide), wp_some]
      exact ⟨hf, e, ⟨e1, e2, e3, fun _ => hsp⟩, e4⟩
  · rw [if_neg (fun z => by have := (n_lt (by omega) (by omega)).mp z; omega), Option.bind_some, if_neg (by decide), wp_some]
    exact ⟨hf, e, ⟨e1, e2, e3, fun z => by omega⟩, e4⟩
theorem or_byte {x b : Nat} (hx : x < 2 ^ 48) (hb : b < 256) : jlshl (lN x) (8 : Int32) ||| (nI b).toInt64 = lN (256 * x + b) := by
  rw [show (nI b).toInt64 = lN b from by
    have h : ∀ b, b < 256 → (nI b).toInt64 = lN b := by decide +kernel
    exact h b hb]
  unfold jlshl
  rw [show (8 : Int32) = nI 8 from rfl, wb_shl _ (by omega), wb_or (by omega) (by omega)]
  congr 1
  rw [Nat.mul_comm x, show (2 : Nat) ^ 8 = 256 from rfl]
  have := Nat.two_pow_add_eq_or_of_lt (i := 8) (show b < 2 ^ 8 from hb) x
  exact this.symm
theorem c_letters (h : TxC T n c) (hp : c.1 1 3 = nI s) (hs : s ≤ n) (hw : c.2.1 1 6 = 0) : wp (lp (b_X5_readWord_1 1) NF c) (fun d => FnC c d ∧ d.1 1 5 = c.1 1 5 ∧ ∃ e, Rnq (ltr T) n s e ∧ d.1 1 3 = nI e ∧ (e - s ≤ 6 → d.2.1 1 6 = cN (wd T s e))) := by
  have hn := h.1
  refine lp_meas (fun d => FnC c d ∧ d.1 1 5 = c.1 1 5 ∧ ∃ e, s ≤ e ∧ e ≤ n ∧ (∀ j, s ≤ j → j < e → ltr T j = true) ∧ d.1 1 3 = nI e ∧ (e - s ≤ 6 → d.2.1 1 6 = cN (wd T s e))) (fun d => FnC c d ∧ d.1 1 5 = c.1 1 5 ∧ ∃ e, Rnq (ltr T) n s e ∧ d.1 1 3 = nI e ∧ (e - s ≤ 6 → d.2.1 1 6 = cN (wd T s e))) (fun d => 1000 - (d.1 1 3).toNatClampNeg) ?_ ⟨FnC.refl c, rfl, s, Nat.le_refl s, hs, fun j a b => by omega, hp, fun _ => by
    unfold cN wd
    rw [hw, Nat.sub_self]; rfl⟩ (by unfold NF; omega)
  rintro d ⟨hf, h5, e, e1, e2, e3, e4, e5⟩
  have h' := h.keep hf
  unfold b_X5_readWord_1
  rw [e4, h'.2.1]
  rcases Nat.lt_or_ge e n with q | q
  · rw [if_pos ((n_lt (by omega) (by omega)).mpr q), c_rd h' q, Option.bind_some, Option.bind_some, bw_lt _ (h'.2.2 e q).1]
    cases hsp : ltr T e with
    | true =>
      have hr : 97 ≤ T e ∧ T e ≤ 122 := of_decide_eq_true hsp
      rw [if_pos (show decide _ = true from hsp), Option.bind_some, if_pos rfl, Option.bind_some, Option.bind_some, wp_some]
      refine ⟨⟨(hf.trans FnC.l).trans (FnC.i (Or.inl rfl)), by rw [wsI_s, upd_o (by omega)]; exact h5, e + 1, by omega, by omega, fun j a b => ?_, by rw [wsI_s, upd_s]; exact (congrArg (· + 1) e4).trans (nI_1 e), fun h6 => ?_⟩, ?_⟩
      · by_cases z : j = e
        · rw [z]; exact hsp
        · exact e3 j a (by omega)
      · have hx : cwd (wd T s e).2 (wd T s e).1 < 2 ^ 48 := (wd_ok (n := e) (T := T) ⟨e1, Nat.le_refl e, e3, fun z => by omega⟩ (by omega)).c
        show vp_updL (d.2.1 1) 6 _ 6 = _
        rw [updL_s, e5 (by omega), bw_id _ (by omega)]
        show jlshl (lN (cwd (wd T s e).2 (wd T s e).1)) 8 ||| (nI (T e)).toInt64 = _
        rw [or_byte hx (by omega)]
        unfold cN
        show lN (256 * cwd (fun i => T (s + i)) (e - s) + T e) = lN (cwd (fun i => T (s + i)) (e + 1 - s))
        rw [show e + 1 - s = (e - s) + 1 by omega, cwd, show s + (e - s) = e by omega]
      · rw [wsI_s, upd_s]
        show 1000 - ((wsL d 1 6 _).1 1 3 + 1).toNatClampNeg < _
        rw [show (wsL d 1 6 (jlshl (d.2.1 1 6) 8 ||| (jbyte (nI (T e))).toInt64)).1 1 3 = nI e from e4, nI_1, n_cl (by omega), n_cl (by omega)]
        omega
    | false =>
      rw [if_neg (show ¬ decide _ = true from fun z => by rw [show decide (97 ≤ T e ∧ T e ≤ 122) = false from hsp] at z; cases z), Option.bind_some, if_neg (by decide), wp_some]
      exact ⟨hf, h5, e, ⟨e1, e2, e3, fun _ => hsp⟩, e4, e5⟩
  · rw [if_neg (fun z => by have := (n_lt (by omega) (by omega)).mp z; omega), Option.bind_some, if_neg (by decide), wp_some]
    exact ⟨hf, h5, e, ⟨e1, e2, e3, fun z => by omega⟩, e4, e5⟩
/-- the class after a token -/
def LxC (T : Nat → Nat) (s e k : Nat) (c : Wd) : Prop := c.1 1 3 = nI e ∧ c.1 1 5 = nI s ∧ c.1 1 4 = nI k ∧ (k = 1 → c.2.1 1 6 = cN (wd T s e))
def LxM (T : Nat → Nat) (s e k : Nat) (m : Wd) : Prop := m.1 0 5 = nI e ∧ m.1 0 4 = nI s ∧ m.1 0 6 = nI k ∧ (k = 1 → m.2.1 0 7 = mN (wd T s e))
theorem c_next {e0 : Nat} (h : TxC T n c) (hp : c.1 1 3 = nI e0) (he : e0 ≤ n) : ∃ c' s e k, f_X5_nextToken c 1 = some c' ∧ Tok T n e0 s e k ∧ LxC T s e k c' ∧ FnC c c' := by
  have hn := h.1
  suffices g : wp (f_X5_nextToken c 1) (fun c' => ∃ s e k, Tok T n e0 s e k ∧ LxC T s e k c' ∧ FnC c c') by
    obtain ⟨c', a, s, e, k, b⟩ := g
    exact ⟨c', s, e, k, a, b⟩
  unfold f_X5_nextToken
  rw [wp_bind]
  refine wp_mono (c_spaces h hp he) ?_
  rintro d ⟨f1, s, hs, hd⟩
  obtain ⟨s1, s2, s3, s4⟩ := id hs
  rw [Option.bind_some]
  have f2 : FnC c (wsI d 1 5 (d.1 1 3)) := f1.trans (FnC.i (Or.inr (Or.inr rfl)))
  have h5 : (wsI d 1 5 (d.1 1 3)).1 1 5 = nI s := by rw [wsI_s, upd_s, hd]
  have h3 : (wsI d 1 5 (d.1 1 3)).1 1 3 = nI s := by rw [wsI_s, upd_o (by omega), hd]
  generalize wsI d 1 5 (d.1 1 3) = w at f2 h5 h3 ⊢
  have hw := h.keep f2
  rw [h3, hw.2.1]
  rcases Nat.lt_or_ge s n with q | q
  · rw [if_neg (fun z => by have := (n_le (by omega) (by omega)).mp z; omega), c_rd hw q, Option.bind_some, Option.bind_some, bw_lt _ (hw.2.2 s q).1]
    cases hl : ltr T s with
    | true =>
      rw [if_pos (show decide _ = true from hl)]
      unfold f_X5_readWord
      rw [Option.bind_some, wp_bind, wp_bind, wp_bind, wp_bind]
      refine wp_mono (c_letters (c := wsL w 1 6 0) (T := T) (n := n) (s := s) (hw.keep FnC.l) h3 s2 (by rw [wsL_s, updL_s])) ?_
      rintro r ⟨g1, g2, e, g3, g4, g5⟩
      have g2 : r.1 1 5 = nI s := g2.trans h5
      rw [Option.bind_some, wp_some, wp_some, wp_some, wp_some]
      refine ⟨s, e, (if e - s ≤ 6 then 1 else 3), ⟨hs, Or.inr (Or.inl ⟨q, hl, g3, rfl⟩)⟩, ⟨by rw [wsI_s, upd_o (by omega), g4], by rw [wsI_s, upd_o (by omega), g2], ?_, fun z => ?_⟩, (f2.trans FnC.l).trans (g1.trans (FnC.i (Or.inr (Or.inl rfl))))⟩
      · have h1 := g3.1
        have h2 := g3.2.1
        rw [wsI_s, upd_s, g2, g4, show nI e - nI s = nI (e - s) from pk_sub h1]
        by_cases z : e - s ≤ 6
        · rw [if_pos (show nI (e - s) ≤ (6 : Int32) from (n_le (b := 6) (by omega) (by omega)).mpr z), if_pos z]; rfl
        · rw [if_neg (show ¬ nI (e - s) ≤ (6 : Int32) from fun y => z ((n_le (b := 6) (by omega) (by omega)).mp y)), if_neg z]; rfl
      · have h6 : e - s ≤ 6 := by
          rcases Nat.lt_or_ge 6 (e - s) with y | y
          · rw [if_neg (by omega)] at z; omega
          · exact y
        exact g5 h6
    | false =>
      rw [if_neg (show ¬ decide _ = true from fun z => by rw [show decide (97 ≤ T s ∧ T s ≤ 122) = false from hl] at z; cases z), Option.bind_some, Option.bind_some, Option.bind_some, Option.bind_some, wp_some]
      refine ⟨s, s + 1, (if T s = 59 then 2 else 3), ⟨hs, Or.inr (Or.inr ⟨q, hl, rfl, rfl⟩)⟩, ⟨?_, ?_, ?_, fun z => ?_⟩, (f2.trans (FnC.i (Or.inr (Or.inl rfl)))).trans (FnC.i (Or.inl rfl))⟩
      · rw [wsI_s, upd_s, wsI_s, upd_o (by omega), h3]; exact nI_1 s
      · rw [wsI_s, upd_o (by omega), wsI_s, upd_o (by omega), h5]
      · rw [wsI_s, upd_o (by omega), wsI_s, upd_s]
        by_cases z : T s = 59
        · rw [if_pos ((bw_se _ (hw.2.2 s q).1).mpr z), if_pos z]; rfl
        · rw [if_neg (fun y => z ((bw_se _ (hw.2.2 s q).1).mp y)), if_neg z]; rfl
      · split at z <;> omega
  · rw [if_pos ((n_le (by omega) (by omega)).mpr q), Option.bind_some, Option.bind_some, wp_some]
    refine ⟨s, s, 0, ⟨hs, Or.inl ⟨by omega, rfl, rfl⟩⟩, ⟨by rw [wsI_s, upd_o (by omega), h3], by rw [wsI_s, upd_o (by omega), h5], by rw [wsI_s, upd_s]; rfl, fun z => by omega⟩, f2.trans (FnC.i (Or.inr (Or.inl rfl)))⟩
end LX
