-- deps: a4
/-! The whole text is read, and taken over. -/
section A5
variable {T : Nat → Nat} {n s e k a b q p e0 L x0 i s' e' k' : Nat} {u : List Nat} {N : Nat → Nat} {W : Nat → Nat → Wrd} {P : PK} {K : CK} {c0 m0 c c' m : Wd}
theorem Tok.en (h : Tok T n e0 s e k) : e ≤ n := by
  rcases h with ⟨r1, (r2 | r2 | r2)⟩
  · have := r1.2.1; omega
  · exact r2.2.2.1.2.1
  · omega
theorem lx_det (h : JB q T n s e k N W P K c0 m0 c m) (hl : LxC T s' e' k' c) (he : e' ≤ n) (hs : s' ≤ e') (hk : k' ≤ 3) : s = s' ∧ e = e' ∧ k = k' := by
  have h1 := h.2.2.1.2.2.1
  have hfit := h.fit
  exact ⟨(n_eq (by omega) (by omega)).mp (h1.2.1.symm.trans hl.2.1), (n_eq (by omega) (by omega)).mp (h1.1.symm.trans hl.1), (n_eq (by omega) (by omega)).mp (h1.2.2.1.symm.trans hl.2.2.1)⟩
theorem read_step (h : JB q T n s e k N W P K c0 m0 c m) (hk : k ≠ 0) (hi : i < 600) (hr : f_X5_readStatement c 1 q = some c') : b_X5_read_1 1 q (nI i, c) = some (.inl (nI (i + 1), c')) := by
  have hfit := h.fit
  unfold b_X5_read_1
  dsimp only
  rw [if_pos ⟨⟨show nI i < (600 : Int32) from (n_lt (b := 600) (by omega) (by omega)).mpr (by omega), by rw [h.2.2.1.2.2.1.2.2.1]; exact k_no (b := 0) (by omega) (by omega) hk⟩, h.err0.1⟩, hr, Option.bind_some, nI_1]
theorem fun_tok (hT : Tx T p u) (hu : u = [102, 117, 110, 32, 112 + x0, 32, 97 + a, 32, 97 + b, 59]) (hn : p + 10 ≤ n) : Tok T n p p (p + 3) 1 := by
  subst hu
  refine tk_kw (L := 3) hT hn (by decide) (by decide) (by show 3 < 10; decide) (fun i hi => ?_) rfl
  have hh : i = 0 ∨ i = 1 ∨ i = 2 := by omega
  rcases hh with rfl | rfl | rfl <;> exact ⟨Nat.le_of_ble_eq_true rfl, Nat.le_of_ble_eq_true rfl⟩
theorem fun_adv (hq : PC q) (hT : Tx T p u) (hu : u = [102, 117, 110, 32, 112 + x0, 32, 97 + a, 32, 97 + b, 59]) (hx : x0 < 2) (ha : a < 6) (hb : b < 6) (hn : p + 10 ≤ n) (h : JB q T n p (p + 3) 1 N W P K c0 m0 c m) (hS : Sv q c) (hF : Fp q c) (h0 : (x0 = 0 ∧ fs P = 0) ∨ x0 = 1) {s5 e5 k5 : Nat} (htok : Tok T n (p + 10) s5 e5 k5) :
    ∃ c' m' N' W' P', f_X5_readStatement c 1 q = some c' ∧ JB q T n s5 e5 k5 N' W' P' K c0 m0 c' m' ∧ Sv q c' ∧ (x0 = 0 → Fp q c') := by
  subst hu
  have g : ∀ i, i < 10 → T (p + i) = ([102, 117, 110, 32, 112 + x0, 32, 97 + a, 32, 97 + b, 59] : List Nat).getD i 0 := hT
  have g3 : T (p + 3) = 32 := g 3 (by decide)
  have g4 : T (p + 3 + 1) = 112 + x0 := g 4 (by decide)
  have g5 : T (p + 5) = 32 := g 5 (by decide)
  have g6 : T (p + 5 + 1) = 97 + a := g 6 (by decide)
  have g7 : T (p + 7) = 32 := g 7 (by decide)
  have g8 : T (p + 7 + 1) = 97 + b := g 8 (by decide)
  have g9 : T (p + 9) = 59 := g 9 (by decide)
  refine st_fun (x0 := x0) (x1 := a) (x2 := b) hq h (kw_of (by decide) rfl (fun i hi => ?_)) hS hF (tk_nm (ty := 1) (by decide) g3 (by show x0 < 4; omega) g4 (by rw [show p + 3 + 2 = p + 5 by omega, g5]; omega) (by omega)) h0 (tk_nm (ty := 0) (by decide) g5 ha g6 (by rw [show p + 5 + 2 = p + 7 by omega, g7]; omega) (by omega)) (tk_nm (ty := 0) (by decide) g7 hb g8 (by rw [show p + 7 + 2 = p + 9 by omega, g9]; omega) (by omega)) (tk_semi (s := p + 9) g9 (by omega)) htok
  have hi : i < 3 := hi
  have h1 := g i (by omega)
  have hh : i = 0 ∨ i = 1 ∨ i = 2 := by omega
  rcases hh with rfl | rfl | rfl <;> exact h1
/-- from p on, with i statements before, all is read -/
def Go (q : Nat) (T : Nat → Nat) (n L : Nat) (c0 m0 : Wd) (p i : Nat) (Cd : Wd → PK → Prop) : Prop := ∃ s e k, Tok T n p s e k ∧ ∀ (f : Nat) (c m : Wd) (N : Nat → Nat) (W : Nat → Nat → Wrd) (P : PK) (K : CK), L + 3 ≤ f + i → JB q T n s e k N W P K c0 m0 c m → Sv q c → nc K = 0 → Cd c P →
  ∃ c' m' N' W' P' K', lp (b_X5_read_1 1 q) f (nI i, c) = some c' ∧ JB q T n n n 0 N' W' P' K' c0 m0 c' m' ∧ nc K' = L
theorem go_us (hq : PC q) {us : List (List Nat)} (hU : ∀ u ∈ us, StmtOK u) (hT : Tx T p us.flatten) (hn : n = p + us.flatten.length) (hi : i ≤ 2) (hL : us.length ≤ 30) {Cd : Wd → PK → Prop} : Go q T n us.length c0 m0 p i Cd := by
  refine ⟨_, _, _, tkU_ok hU hT hn, fun f c m N W P K hf h hS hK _ => ?_⟩
  obtain ⟨c', m', N', W', P', K', z1, z2, z3⟩ := loop_fwd (n := n) hq us p i f c m N W P K hU hT hn (by omega) (by omega) (by omega) h hS
  exact ⟨c', m', N', W', P', K', z1, z2, by omega⟩
theorem go_fun (hq : PC q) (hT : Tx T p u) (hu : u = [102, 117, 110, 32, 112 + x0, 32, 97 + a, 32, 97 + b, 59]) (hx : x0 < 2) (ha : a < 6) (hb : b < 6) (hn : p + 10 ≤ n) (hi : i ≤ 2) {Cd Cd' : Wd → PK → Prop} (h1 : ∀ {s e k : Nat} {c m : Wd} {N : Nat → Nat} {W : Nat → Nat → Wrd} {P : PK} {K : CK}, JB q T n s e k N W P K c0 m0 c m → Cd c P → Fp q c ∧ ((x0 = 0 ∧ fs P = 0) ∨ x0 = 1)) (h2 : ∀ c P, (x0 = 0 → Fp q c) → Cd' c P) (G : Go q T n L c0 m0 (p + 10) (i + 1) Cd') : Go q T n L c0 m0 p i Cd := by
  obtain ⟨s5, e5, k5, htok, G⟩ := G
  refine ⟨_, _, _, fun_tok hT hu hn, fun f c m N W P K hf h hS hK hc => ?_⟩
  obtain ⟨f, rfl⟩ : ∃ g, f = g + 1 := ⟨f - 1, by omega⟩
  obtain ⟨hF, h0⟩ := h1 h hc
  obtain ⟨c', m', N', W', P', z1, z2, z3, z4⟩ := fun_adv hq hT hu hx ha hb hn h hS hF h0 htok
  rw [lp_go (read_step h (by decide) (by omega) z1)]
  exact G f c' m' N' W' P' K (by omega) z2 z3 hK (h2 _ _ z4)
theorem go_all (hq : PC q) {t : List Nat} {k : Nat} (hp : ProgOK t k) (hk : k ≤ 30) (hT : Tx T 0 t) (hn : n = t.length) : Go q T n k c0 m0 0 0 (fun _ P => fs P = 0) := by
  obtain ⟨h, us, rfl, ⟨p1, p2, rfl, h1, h2⟩, rfl, hU⟩ := hp
  have fp0 : ∀ {s e k : Nat} {c m : Wd} {N : Nat → Nat} {W : Nat → Nat → Wrd} {P : PK} {K : CK}, JB q T n s e k N W P K c0 m0 c m → fs P = 0 → Fp q c := fun h hf v hv hb => by
    rw [h.2.2.2.2.2.2.1.1, hf, b_0] at hb; cases hb
  have n2 : lsN 0 = [102, 117, 110, 32, 112 + 0, 32, 97 + 0, 32, 97 + 1, 59] := rfl
  rw [List.length_append] at hn
  rcases h1 with rfl | rfl <;> rcases h2 with rfl | ⟨a, b, ha, hb, rfl⟩
  · simp only [List.nil_append, List.length_nil] at hT hn
    exact go_us hq hU hT (by omega) (by omega) hk
  · rw [List.nil_append] at hT hn
    have e1 : lsN 1 ++ ([97 + a] ++ (lsN 2 ++ ([97 + b] ++ lsN 3))) = [102, 117, 110, 32, 112 + 1, 32, 97 + a, 32, 97 + b, 59] := rfl
    rw [e1] at hT hn
    have hn : n = 10 + us.flatten.length := hn
    refine go_fun (Cd' := fun _ _ => True) hq hT.left rfl (by omega) ha hb (by omega) (by omega) (fun h z => ⟨fp0 h z, Or.inr rfl⟩) (fun _ _ _ => trivial) (go_us hq hU hT.right (by show n = 0 + 10 + _; omega) (by omega) hk)
  · rw [List.append_nil, n2] at hT hn
    have hn : n = 10 + us.flatten.length := hn
    refine go_fun (Cd' := fun _ _ => True) hq hT.left rfl (by omega) (by omega) (by omega) (by omega) (by omega) (fun h z => ⟨fp0 h z, Or.inl ⟨rfl, z⟩⟩) (fun _ _ _ => trivial) (go_us hq hU hT.right (by show n = 0 + 10 + _; omega) (by omega) hk)
  · have e1 : lsN 1 ++ ([97 + a] ++ (lsN 2 ++ ([97 + b] ++ lsN 3))) = [102, 117, 110, 32, 112 + 1, 32, 97 + a, 32, 97 + b, 59] := rfl
    rw [e1, n2] at hT hn
    rw [List.append_assoc] at hT
    have hn : n = 20 + us.flatten.length := hn
    refine go_fun (Cd' := fun c _ => Fp q c) hq hT.left rfl (by omega) (by omega) (by omega) (by omega) (by omega) (fun h z => ⟨fp0 h z, Or.inl ⟨rfl, z⟩⟩) (fun c P z => z rfl) ?_
    have hT2 : Tx T 10 _ := hT.right
    refine go_fun (p := 10) (x0 := 1) (Cd' := fun _ _ => True) hq hT2.left rfl (by omega) ha hb (by omega) (by omega) (fun h z => ⟨z, Or.inr rfl⟩) (fun _ _ _ => trivial) (go_us hq hU hT2.right (by show n = 10 + 10 + _; omega) (by omega) hk)
theorem parse_fwd (h : RW c m) {t : List Nat} {k : Nat} (hp : ProgOK t k) (hk : k ≤ 30) (hT : Tx T 0 t) (hn : n = t.length) (hL : c.1 1 1 = nI L) (hL6 : L ≤ 600) (hnL : n ≤ L) (hB : ∀ j, j < n → T j < 256 ∧ c.1 2 j = jbyte (nI (T j))) :
    ∃ c2 m2 p P K V O, f_X9_parse c 0 (nI n) = some (nI k, c2) ∧ WR p P K V O c2 m2 ∧ nc K = k ∧ ∀ i, bt (en K) i = decide (i < nc K) := by
  obtain ⟨p, P, K, V, O, h⟩ := h
  obtain ⟨⟨hb, hh⟩, hs, ⟨L', u1, u2, u3, u4⟩, hnc, hnm, hg, hd, l1, l2, hr⟩ := id h
  obtain ⟨hpo, hpp, hp4⟩ := hb.1.other
  have hLL : L' = L := (n_eq (by omega) (by omega)).mp (u2.symm.trans hL)
  subst hLL
  have nL : ¬ nI L' < nI n := fun z => by have := (n_lt (by omega) (by omega)).mp z; omega
  obtain ⟨c5, a0, a⟩ := c_clear (c := c) (n := n) hpo
  obtain ⟨m5, b0, b⟩ := m_prep (m := m) (n := n)
  have hTT : ∀ j, j < n → T j < 256 ∧ c.1 2 j = jbyte (nI (T j)) ∧ m.1 1 j = jbyte (nI (T j)) := fun j hj => ⟨(hB j hj).1, (hB j hj).2, (u4 j (by omega)).1.symm.trans (hB j hj).2⟩
  obtain ⟨c6, m6, s, e, kk, n1, n2, jb⟩ := jb_start (T := T) hpo a b l2 (show n ≤ 600 by omega) hTT
  obtain ⟨s1, e1, k1, htok, G⟩ := go_all (q := 22 - p) (c0 := c5) (m0 := m5) hpo hp hk hT hn
  have tc : TxC T n c5 := ⟨by omega, a.2.2.1.2.1, fun j hj => by rw [a.1 2 (by omega) (by omega)]; exact hB j hj⟩
  obtain ⟨c7, s2, e2, k2, y1, y2, y3, y4⟩ := c_next (e0 := 0) tc a.2.2.1.2.2.1 (by omega)
  obtain ⟨rfl, rfl, rfl⟩ := Tok.uniq y2 htok
  obtain rfl := Option.some.inj (n1.symm.trans y1)
  have hfit := y2.fit
  obtain ⟨rfl, rfl, rfl⟩ := lx_det jb y3 y2.en hfit.2.1 hfit.2.2.2.1
  have S0 : Sv (22 - p) c6 := fun t ht M hM hcM v hv => by
    have h1 := (jb.2.2.2.2.1 t ht).2.1
    have : 0 = M := (n_eq (by omega) (by omega)).mp (h1.symm.trans hcM)
    omega
  obtain ⟨c8, m8, N', W', P', K', z1, z2, z3⟩ := G NF c6 m6 _ _ _ _ (by have : NF = 65536 := rfl; omega) jb S0 rfl rfl
  have z1' : lp (b_X5_read_1 1 (22 - p)) NF ((0 : Int32), c6) = some c8 := z1
  obtain ⟨r, c9, m9, g1, g2, g3⟩ := parse_take hb.1 rfl hb.2.1 hr l1 a b z2
  have hen := z2.2.2.2.2.2.2.2.2.2.2
  have hr2 : r = nI (nc K') := by
    obtain ⟨x7, -, g1⟩ := Option.bind_eq_some_iff.mp g1
    obtain ⟨x8, -, g1⟩ := Option.bind_eq_some_iff.mp g1
    obtain ⟨w9, -, g1⟩ := Option.bind_eq_some_iff.mp g1
    obtain ⟨w10, -, g1⟩ := Option.bind_eq_some_iff.mp g1
    obtain ⟨w11, -, g1⟩ := Option.bind_eq_some_iff.mp g1
    obtain ⟨w12, -, g1⟩ := Option.bind_eq_some_iff.mp g1
    obtain ⟨w13, -, g1⟩ := Option.bind_eq_some_iff.mp g1
    obtain ⟨x14, gx, g1⟩ := Option.bind_eq_some_iff.mp g1
    have g1 := Option.some.inj g1
    have ew : w13 = c9 := congrArg Prod.snd g1
    subst ew
    have er : w13.1 (zrf zC x14 6) 4 = r := congrArg Prod.fst g1
    have hpc := g3.1.1.1
    have hx : x14 = 22 - p := by
      have := rdD_of (w := w13) (k := 0) (j := 1) (t := 6) (y := 22 - p) g3.1.1.2.1 hpc.ct
      exact Option.some.inj (gx.symm.trans this)
    rw [← er, hx, zp6 hpc]
    exact g3.1.1.2.2.2.1.1
  refine ⟨c9, m9, _, _, _, _, _, ?_, g3, z3, hen⟩
  unfold f_X9_parse
  rw [if_neg (fun z => z.elim (n_neg (by omega)) (fun y => nL (by rw [← u2]; exact y))), rdD_of (y := 22 - p) hr hpo.ct, Option.bind_some]
  unfold f_X5_read
  show Option.bind (Option.bind (some (wsI c 1 2 (if c.1 1 1 < nI n then c.1 1 1 else nI n))) _) _ = _
  rw [u2, if_neg nL, Option.bind_some, Option.bind_some, Option.bind_some, Option.bind_some]
  show Option.bind (Option.bind (f_X6_clear (wsI (wsI (wsI (wsI c 1 2 (nI n)) 1 1 0) 1 3 0) 1 7 0) (22 - p)) _) _ = _
  rw [a0, Option.bind_some, show zrf zC 0 0 = 1 from rfl, n1, Option.bind_some]
  show Option.bind (Option.bind (lp (b_X5_read_1 1 (22 - p)) NF ((0 : Int32), c6)) _) _ = _
  rw [z1', Option.bind_some, Option.bind_some]
  dsimp only
  rw [if_neg (fun z => z z2.err0.1), g1, hr2, z3]
end A5
