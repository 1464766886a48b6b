-- deps: a3 29
/-! The text that the law makes is right: its tokens, its statements. -/
def kl (u : List Nat) : Nat := (u.takeWhile (fun y => y != 32)).length
def Tx (T : Nat → Nat) (p : Nat) (u : List Nat) : Prop := ∀ i, i < u.length → T (p + i) = u.getD i 0
section TX
variable {T : Nat → Nat} {n s e k a b q p e0 L x0 x1 x2 y0 y1 y2 kk : Nat} {u : List Nat} {N : Nat → Nat} {W : Nat → Nat → Wrd} {P : PK} {K : CK} {c0 m0 c m : Wd}
theorem tk_word (hs : e0 ≤ s) (sp : ∀ j, e0 ≤ j → j < s → T j = 32) (hse : s < e) (lt : ∀ j, s ≤ j → j < e → 97 ≤ T j ∧ T j ≤ 122) (he : e < n) (h6 : e - s ≤ 6) (hx : T e < 97) : Tok T n e0 s e 1 := by
  have h0 := lt s (Nat.le_refl _) hse
  refine ⟨⟨hs, by omega, fun j h1 h2 => decide_eq_true (Or.inl (sp j h1 h2)), fun _ => decide_eq_false (by omega)⟩, Or.inr (Or.inl ⟨by omega, decide_eq_true h0, ⟨by omega, by omega, fun j h1 h2 => decide_eq_true (lt j h1 h2), fun _ => decide_eq_false (by omega)⟩, (if_pos h6).symm⟩)⟩
theorem tk_semi (h : T s = 59) (hn : s < n) : Tok T n s s (s + 1) 2 :=
  ⟨⟨Nat.le_refl _, by omega, fun j h1 h2 => by omega, fun _ => decide_eq_false (by omega)⟩, Or.inr (Or.inr ⟨hn, decide_eq_false (by omega), rfl, (if_pos h).symm⟩)⟩
theorem tk_end : Tok T n n n n 0 := ⟨⟨Nat.le_refl _, Nat.le_refl _, fun j h1 h2 => by omega, fun h => absurd h (Nat.lt_irrefl _)⟩, Or.inl ⟨rfl, rfl, rfl⟩⟩
theorem tk_nm {ty x : Nat} (ht : ty < 3) (h0 : T e0 = 32) (hx : x < wid ty) (h1 : T (e0 + 1) = lo ty + x) (h2 : T (e0 + 2) < 97) (hn : e0 + 2 < n) : Nm T n e0 ty x (e0 + 1) (e0 + 2) := by
  have hlo := lo_ok ty ht
  refine ⟨hx, h1, rfl, tk_word (by omega) (fun j h3 h4 => ?_) (by omega) (fun j h3 h4 => ?_) hn (by omega) h2⟩
  · rw [show j = e0 by omega]; exact h0
  · rw [show j = e0 + 1 by omega]; omega
theorem cwd_cg {f g : Nat → Nat} : ∀ {n : Nat}, (∀ i, i < n → f i = g i) → cwd f n = cwd g n := by
  intro n
  induction n with
  | zero => intro _; rfl
  | succ n ih =>
    intro h
    show 256 * cwd f n + f n = 256 * cwd g n + g n
    rw [ih (fun i hi => h i (by omega)), h n (by omega)]
theorem kw_ne : ∀ j, j < 6 → ∀ i, i < j → cN (KW j) ≠ cN (KW i) := by decide +kernel
theorem kw_of {j : Nat} (hj : j < 6) (hl : e = s + (KB.getD j []).length) (h : ∀ i, i < (KB.getD j []).length → T (s + i) = (KB.getD j []).getD i 0) : kwR 1 (wd T s e) = nI j := by
  have hc : cN (wd T s e) = cN (KW j) := by
    unfold cN
    have e1 : (wd T s e).1 = (KW j).1 := by show e - s = (KB.getD j []).length; omega
    rw [e1]
    exact congrArg lN (cwd_cg h)
  have hq : kwq (wd T s e) j = true := decide_eq_true hc
  unfold kwR
  rw [if_pos ⟨rfl, exb_iff.mpr ⟨j, hj, hq⟩⟩, fstb_uniq hj hq (fun i hi => decide_eq_false (by rw [hc]; exact kw_ne j hj i hi))]
/-- what one statement of the text does -/
def Adv (q : Nat) (T : Nat → Nat) (n p : Nat) (u : List Nat) : Prop := ∀ (c0 m0 c m : Wd) (N : Nat → Nat) (W : Nat → Nat → Wrd) (P : PK) (K : CK), JB q T n p (p + kl u) 1 N W P K c0 m0 c m → nc K < 30 → Sv q c → ∀ s5 e5 k5, Tok T n (p + u.length) s5 e5 k5 →
  ∃ c' m' N' W' P' K', f_X5_readStatement c 1 q = some c' ∧ JB q T n s5 e5 k5 N' W' P' K' c0 m0 c' m' ∧ nc K' = nc K + 1 ∧ Sv q c'
/-- two operands -/
theorem adv2 (hq : PC q) (hk : kk < 5) (h3 : ¬ t2 kk < 3) (hL : L = (KB.getD kk []).length) (hkl : kl u = L) (hul : u.length = L + 5) (hkw : ∀ i, i < L → T (p + i) = (KB.getD kk []).getD i 0) (g0 : T (p + L) = 32) (hx0 : x0 < wid 0) (g1 : T (p + L + 1) = lo 0 + x0) (g2 : T (p + L + 2) = 32) (hx1 : x1 < wid (t1 kk)) (g3 : T (p + L + 3) = lo (t1 kk) + x1) (g4 : T (p + L + 4) = 59) (hn : p + u.length ≤ n) : Adv q T n p u := by
  intro c0 m0 c m N W P K h hnc hS s5 e5 k5 htok
  rw [hkl] at h
  rw [hul] at htok
  exact st_con (x0 := x0) (x1 := x1) (x2 := 0) hq hk hnc h (kw_of (by omega) (by omega) (fun i hi => hkw i (by omega))) hS (tk_nm (by omega) g0 hx0 g1 (by rw [g2]; omega) (by omega)) (tk_nm (op_ty1 kk hk).2 g2 hx1 g3 (by rw [show p + L + 2 + 2 = p + L + 4 by omega, g4]; omega) (by omega)) (by rw [if_neg h3]; exact tk_semi (s := p + L + 4) g4 (by omega)) (s5 := s5) (e5 := e5) (k5 := k5) htok
theorem adv3 (hq : PC q) (hk : kk < 5) (h3 : t2 kk < 3) (hL : L = (KB.getD kk []).length) (hkl : kl u = L) (hul : u.length = L + 7) (hkw : ∀ i, i < L → T (p + i) = (KB.getD kk []).getD i 0) (g0 : T (p + L) = 32) (hx0 : x0 < wid 0) (g1 : T (p + L + 1) = lo 0 + x0) (g2 : T (p + L + 2) = 32) (hx1 : x1 < wid (t1 kk)) (g3 : T (p + L + 3) = lo (t1 kk) + x1) (g4 : T (p + L + 4) = 32) (hx2 : x2 < wid (t2 kk)) (g5 : T (p + L + 5) = lo (t2 kk) + x2) (g6 : T (p + L + 6) = 59) (hn : p + u.length ≤ n) : Adv q T n p u := by
  intro c0 m0 c m N W P K h hnc hS s5 e5 k5 htok
  rw [hkl] at h
  rw [hul] at htok
  exact st_con (x0 := x0) (x1 := x1) (x2 := x2) hq hk hnc h (kw_of (by omega) (by omega) (fun i hi => hkw i (by omega))) hS (tk_nm (by omega) g0 hx0 g1 (by rw [g2]; omega) (by omega)) (tk_nm (op_ty1 kk hk).2 g2 hx1 g3 (by rw [show p + L + 2 + 2 = p + L + 4 by omega, g4]; omega) (by omega)) (by rw [if_pos h3]; exact ⟨_, _, tk_nm (e0 := p + L + 4) h3 g4 hx2 g5 (by rw [show p + L + 4 + 2 = p + L + 6 by omega, g6]; omega) (by omega), tk_semi (s := p + L + 6) g6 (by omega)⟩) (s5 := s5) (e5 := e5) (k5 := k5) htok
theorem stmt_adv (hq : PC q) (h : StmtOK u) (hT : Tx T p u) (hn : p + u.length ≤ n) : Adv q T n p u := by
  rcases h with ⟨a, o, ha, ho, rfl⟩ | ⟨a, b, ha, hb, rfl⟩ | ⟨a, b, f, ha, hb, hf, rfl⟩ | ⟨a, b, f, ha, hb, hf, rfl⟩ | ⟨a, b, d, ha, hb, hd, rfl⟩
  · exact adv2 (kk := 0) (L := 3) (x0 := a) (x1 := o) hq (by decide) (by decide) rfl rfl rfl (fun i hi => by
      have h1 := hT i (by show i < 8; omega)
      have hh : i = 0 ∨ i = 1 ∨ i = 2 := by omega
      rcases hh with rfl | rfl | rfl <;> exact h1) (hT 3 (Nat.le_of_ble_eq_true rfl)) ha (hT 4 (Nat.le_of_ble_eq_true rfl)) (hT 5 (Nat.le_of_ble_eq_true rfl)) ho (hT 6 (Nat.le_of_ble_eq_true rfl)) (hT 7 (Nat.le_of_ble_eq_true rfl)) hn
  · exact adv2 (kk := 1) (L := 4) (x0 := a) (x1 := b) hq (by decide) (by decide) rfl rfl rfl (fun i hi => by
      have h1 := hT i (by show i < 9; omega)
      have hh : i = 0 ∨ i = 1 ∨ i = 2 ∨ i = 3 := by omega
      rcases hh with rfl | rfl | rfl | rfl <;> exact h1) (hT 4 (Nat.le_of_ble_eq_true rfl)) ha (hT 5 (Nat.le_of_ble_eq_true rfl)) (hT 6 (Nat.le_of_ble_eq_true rfl)) hb (hT 7 (Nat.le_of_ble_eq_true rfl)) (hT 8 (Nat.le_of_ble_eq_true rfl)) hn
  · exact adv3 (kk := 2) (L := 4) (x0 := a) (x1 := b) (x2 := f) hq (by decide) (by decide) rfl rfl rfl (fun i hi => by
      have h1 := hT i (by show i < 11; omega)
      have hh : i = 0 ∨ i = 1 ∨ i = 2 ∨ i = 3 := by omega
      rcases hh with rfl | rfl | rfl | rfl <;> exact h1) (hT 4 (Nat.le_of_ble_eq_true rfl)) ha (hT 5 (Nat.le_of_ble_eq_true rfl)) (hT 6 (Nat.le_of_ble_eq_true rfl)) hb (hT 7 (Nat.le_of_ble_eq_true rfl)) (hT 8 (Nat.le_of_ble_eq_true rfl)) hf (hT 9 (Nat.le_of_ble_eq_true rfl)) (hT 10 (Nat.le_of_ble_eq_true rfl)) hn
  · exact adv3 (kk := 3) (L := 5) (x0 := a) (x1 := f) (x2 := b) hq (by decide) (by decide) rfl rfl rfl (fun i hi => by
      have h1 := hT i (by show i < 12; omega)
      have hh : i = 0 ∨ i = 1 ∨ i = 2 ∨ i = 3 ∨ i = 4 := by omega
      rcases hh with rfl | rfl | rfl | rfl | rfl <;> exact h1) (hT 5 (Nat.le_of_ble_eq_true rfl)) ha (hT 6 (Nat.le_of_ble_eq_true rfl)) (hT 7 (Nat.le_of_ble_eq_true rfl)) hf (hT 8 (Nat.le_of_ble_eq_true rfl)) (hT 9 (Nat.le_of_ble_eq_true rfl)) hb (hT 10 (Nat.le_of_ble_eq_true rfl)) (hT 11 (Nat.le_of_ble_eq_true rfl)) hn
  · exact adv3 (kk := 4) (L := 4) (x0 := a) (x1 := b) (x2 := d) hq (by decide) (by decide) rfl rfl rfl (fun i hi => by
      have h1 := hT i (by show i < 11; omega)
      have hh : i = 0 ∨ i = 1 ∨ i = 2 ∨ i = 3 := by omega
      rcases hh with rfl | rfl | rfl | rfl <;> exact h1) (hT 4 (Nat.le_of_ble_eq_true rfl)) ha (hT 5 (Nat.le_of_ble_eq_true rfl)) (hT 6 (Nat.le_of_ble_eq_true rfl)) hb (hT 7 (Nat.le_of_ble_eq_true rfl)) (hT 8 (Nat.le_of_ble_eq_true rfl)) hd (hT 9 (Nat.le_of_ble_eq_true rfl)) (hT 10 (Nat.le_of_ble_eq_true rfl)) hn
/-- a keyword's token -/
theorem tk_kw (hT : Tx T p u) (hn : p + u.length ≤ n) (h0 : 0 < L) (hL6 : L ≤ 6) (hL : L < u.length) (h1 : ∀ i, i < L → 97 ≤ u.getD i 0 ∧ u.getD i 0 ≤ 122) (h2 : u.getD L 0 = 32) : Tok T n p p (p + L) 1 :=
  tk_word (Nat.le_refl _) (fun j h3 h4 => by omega) (by omega) (fun j h3 h4 => by
    have := hT (j - p) (by omega)
    rw [show p + (j - p) = j by omega] at this
    rw [this]
    exact h1 _ (by omega)) (by omega) (by omega) (by rw [hT L hL, h2]; omega)
theorem stmt_tok (h : StmtOK u) (hT : Tx T p u) (hn : p + u.length ≤ n) : Tok T n p p (p + kl u) 1 := by
  rcases h with ⟨a, o, ha, ho, rfl⟩ | ⟨a, b, ha, hb, rfl⟩ | ⟨a, b, f, ha, hb, hf, rfl⟩ | ⟨a, b, f, ha, hb, hf, rfl⟩ | ⟨a, b, d, ha, hb, hd, rfl⟩
  · refine tk_kw (L := 3) hT hn (by decide) (by decide) (by show 3 < 8; decide) (fun i hi => ?_) rfl
    have hh : i = 0 ∨ i = 1 ∨ i = 2 := by omega
    rcases hh with rfl | rfl | rfl <;> exact ⟨Nat.le_of_ble_eq_true rfl, Nat.le_of_ble_eq_true rfl⟩
  · refine tk_kw (L := 4) hT hn (by decide) (by decide) (by show 4 < 9; decide) (fun i hi => ?_) rfl
    have hh : i = 0 ∨ i = 1 ∨ i = 2 ∨ i = 3 := by omega
    rcases hh with rfl | rfl | rfl | rfl <;> exact ⟨Nat.le_of_ble_eq_true rfl, Nat.le_of_ble_eq_true rfl⟩
  · refine tk_kw (L := 4) hT hn (by decide) (by decide) (by show 4 < 11; decide) (fun i hi => ?_) rfl
    have hh : i = 0 ∨ i = 1 ∨ i = 2 ∨ i = 3 := by omega
    rcases hh with rfl | rfl | rfl | rfl <;> exact ⟨Nat.le_of_ble_eq_true rfl, Nat.le_of_ble_eq_true rfl⟩
  · refine tk_kw (L := 5) hT hn (by decide) (by decide) (by show 5 < 12; decide) (fun i hi => ?_) rfl
    have hh : i = 0 ∨ i = 1 ∨ i = 2 ∨ i = 3 ∨ i = 4 := by omega
    rcases hh with rfl | rfl | rfl | rfl | rfl <;> exact ⟨Nat.le_of_ble_eq_true rfl, Nat.le_of_ble_eq_true rfl⟩
  · refine tk_kw (L := 4) hT hn (by decide) (by decide) (by show 4 < 11; decide) (fun i hi => ?_) rfl
    have hh : i = 0 ∨ i = 1 ∨ i = 2 ∨ i = 3 := by omega
    rcases hh with rfl | rfl | rfl | rfl <;> exact ⟨Nat.le_of_ble_eq_true rfl, Nat.le_of_ble_eq_true rfl⟩
theorem Tx.left {u v : List Nat} (h : Tx T p (u ++ v)) : Tx T p u := fun i hi => by
  rw [h i (by rw [List.length_append]; omega)]
  simp only [List.getD_eq_getElem?_getD]
  rw [List.getElem?_append_left hi]
theorem Tx.right {u v : List Nat} (h : Tx T p (u ++ v)) : Tx T (p + u.length) v := fun i hi => by
  rw [Nat.add_assoc, h (u.length + i) (by rw [List.length_append]; omega)]
  simp only [List.getD_eq_getElem?_getD]
  rw [List.getElem?_append_right (by omega), show u.length + i - u.length = i by omega]
/-- the token at the beginning of the statements us -/
def tkU (n p : Nat) (us : List (List Nat)) : Nat × Nat × Nat := match us with
  | [] => (n, n, 0)
  | u :: _ => (p, p + kl u, 1)
theorem tkU_ok {us : List (List Nat)} (h : ∀ u ∈ us, StmtOK u) (hT : Tx T p us.flatten) (hn : n = p + us.flatten.length) : Tok T n p (tkU n p us).1 (tkU n p us).2.1 (tkU n p us).2.2 := by
  cases us with
  | nil =>
    have : n = p := by simpa using hn
    subst this
    exact tk_end
  | cons u us =>
    rw [List.flatten_cons] at hT hn
    rw [List.length_append] at hn
    exact stmt_tok (h u List.mem_cons_self) hT.left (by omega)
/-- all statements are read -/
theorem loop_fwd (hq : PC q) : ∀ (us : List (List Nat)) (p i f : Nat) (c m : Wd) (N : Nat → Nat) (W : Nat → Nat → Wrd) (P : PK) (K : CK), (∀ u ∈ us, StmtOK u) → Tx T p us.flatten → n = p + us.flatten.length → us.length + 1 ≤ f → i + us.length ≤ 600 → nc K + us.length ≤ 30 → JB q T n (tkU n p us).1 (tkU n p us).2.1 (tkU n p us).2.2 N W P K c0 m0 c m → Sv q c →
    ∃ c' m' N' W' P' K', lp (b_X5_read_1 1 q) f (nI i, c) = some c' ∧ JB q T n n n 0 N' W' P' K' c0 m0 c' m' ∧ nc K' = nc K + us.length := by
  intro us
  induction us with
  | nil =>
    intro p i f c m N W P K hU hT hn hf hi hk h hS
    obtain ⟨f, rfl⟩ : ∃ g, f = g + 1 := ⟨f - 1, by omega⟩
    have h : JB q T n n n 0 N W P K c0 m0 c m := h
    refine ⟨c, m, N, W, P, K, lp_end ?_, h, rfl⟩
    unfold b_X5_read_1
    dsimp only
    rw [if_neg (fun z => z.1.2 (by rw [h.2.2.1.2.2.1.2.2.1]; rfl))]
  | cons u us ih =>
    intro p i f c m N W P K hU hT hn hf hi hk h hS
    rw [List.length_cons] at hf hi hk
    obtain ⟨f, rfl⟩ : ∃ g, f = g + 1 := ⟨f - 1, by omega⟩
    have h : JB q T n p (p + kl u) 1 N W P K c0 m0 c m := h
    have hn0 := hn
    have hT0 := hT
    rw [List.flatten_cons] at hT hn
    rw [List.length_append] at hn
    have hU2 : ∀ v ∈ us, StmtOK v := fun v hv => hU v (List.mem_cons_of_mem _ hv)
    obtain ⟨c', m', N', W', P', K', z1, z2, z3, z4⟩ := stmt_adv hq (hU u List.mem_cons_self) hT.left (n := n) (by omega) c0 m0 c m N W P K h (by omega) hS _ _ _ (tkU_ok (n := n) hU2 hT.right (by omega))
    have e1 : b_X5_read_1 1 q (nI i, c) = some (.inl (nI (i + 1), c')) := by
      unfold b_X5_read_1
      dsimp only
      rw [if_pos ⟨⟨show nI i < (600 : Int32) from (n_lt (b := 600) (by omega) (by omega)).mpr (by omega), by rw [h.2.2.1.2.2.1.2.2.1]; exact k_no (b := 0) (by omega) (by omega) (by omega)⟩, h.err0.1⟩, z1, Option.bind_some, nI_1]
    rw [lp_go e1]
    obtain ⟨c2, m2, N2, W2, P2, K2, y1, y2, y3⟩ := ih (p + u.length) (i + 1) f c' m' N' W' P' K' hU2 hT.right (by omega) (by omega) (by omega) (by omega) z2 z4
    exact ⟨c2, m2, N2, W2, P2, K2, y1, y2, by rw [y3, z3, List.length_cons]; omega⟩
end TX
