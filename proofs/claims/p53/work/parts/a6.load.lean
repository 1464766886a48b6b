-- deps: a5 26a
/-! The text goes into the buffer, word by word. -/
def wv (g : Nat → Nat) : Nat → Int32
  | 0 => 0
  | m + 1 => jshl (wv g m) (8 : Int32) ||| nI (g m)
theorem bt_small {c j : Nat} (hc : c < 256) (h8 : 8 ≤ j) (hj : j < 32) : bt (nI c) j = false := by
  rw [bt_nI hj]
  exact Nat.testBit_lt_two_pow (Nat.lt_of_lt_of_le hc (Nat.pow_le_pow_right (by decide : 0 < 2) h8 : 2 ^ 8 ≤ 2 ^ j))
theorem wv_bt {g : Nat → Nat} : ∀ m, m ≤ 4 → (∀ i, i < m → g i < 256) → ∀ i, i < m → ∀ j, j < 8 → bt (wv g m) (8 * (m - 1 - i) + j) = bt (nI (g i)) j := by
  intro m
  induction m with
  | zero => intro _ _ i hi; omega
  | succ m ih =>
    intro hm hg i hi j hj
    show bt (jshl (wv g m) (8 : Int32) ||| nI (g m)) _ = _
    rw [b_or]
    unfold jshl
    rw [b_shl8 _ (by omega)]
    by_cases hz : i = m
    · subst hz
      rw [show 8 * (i + 1 - 1 - i) + j = j by omega, decide_eq_false (by omega), Bool.false_and, Bool.false_or]
    · rw [bt_small (hg m (by omega)) (by omega) (by omega), Bool.or_false, decide_eq_true (by omega), Bool.true_and, show 8 * (m + 1 - 1 - i) + j - 8 = 8 * (m - 1 - i) + j by omega]
      exact ih (by omega) (fun k hk => hg k (by omega)) i (by omega) j hj
theorem bW_wv {g : Nat → Nat} (hg : ∀ i, i < 4 → g i < 256) {i : Nat} (hi : i < 4) : bW (wv g 4) i = jbyte (nI (g i)) := by
  unfold bW
  rw [byte_twice]
  refine byte_of fun j hj => ?_
  unfold jushr
  rw [b_ushr (24 - 8 * i) (by omega)]
  have := wv_bt 4 (Nat.le_refl _) hg i hi j hj
  rw [show 24 - 8 * i + j = 8 * (4 - 1 - i) + j by omega]
  exact this
theorem wrA_at {f : Nat → Int32} {n j : Nat} {x : Int32} (hj : j < n) (hn : n < 2000) : wrA f n (nI j) x = some (upd f j x) := by
  unfold wrA
  rw [n_cl (by omega), if_neg (fun z => z.elim (n_neg (by omega)) (fun y => by omega))]
theorem rdT_at {f : Nat → Int32} {n j c : Nat} (hj : j < n) (hn : n < 2000) (hf : f j = nI c) (hc : c < 128) : rdT f n (nI j) = some (nI c) := by
  unfold rdT
  rw [n_cl (by omega), if_neg (fun z => z.elim (n_neg (by omega)) (fun y => by omega)), hf, if_pos ⟨(n_le (a := 0) (by omega) (by omega)).mpr (Nat.zero_le _), (n_lt (b := 128) (by omega) (by omega)).mpr hc⟩]
section A6
variable {c m : Wd} {L n : Nat} {ft : Nat → Int32} {t : List Nat}
/-- the text, blanks behind -/
def Cx (t : List Nat) (j : Nat) : Nat := if j < t.length then t.getD j 0 else 32
theorem app_fwd (h : RW c m) (hL : c.1 1 1 = nI L) (hn : L + 20 ≤ 600) (V : Nat → Int32) : ∃ r c' m', f_X9_append c 0 (V 0) (V 1) (V 2) (V 3) (V 4) = some (r, c') ∧ RW c' m' ∧ c'.1 1 1 = nI (L + 20) ∧ (∀ j, j < 20 → c'.1 2 (L + j) = bW (V (j / 4)) (j % 4)) ∧ ∀ j, j < L → c'.1 2 j = c.1 2 j := by
  obtain ⟨r, c', m', g1, g2, g3⟩ := w_append (a := V 0) (b := V 1) (d := V 2) (e := V 3) (f := V 4) h
  refine ⟨r, c', m', g1, g3, ?_⟩
  unfold f_X9_append at g1
  have hc : ¬ (600 : Int32) < c.1 (zrf zC 0 0) 1 + 20 := fun z => by
    have z : (600 : Int32) < c.1 1 1 + 20 := z
    rw [hL, show nI L + 20 = nI (L + 20) from nI_add L 20] at z
    have := (n_lt (a := 600) (by omega) (by omega)).mp z
    omega
  rw [if_neg hc] at g1
  obtain ⟨c1, x1, y1, z1, -⟩ := c_word (v := V 0) hL (by omega)
  obtain ⟨c2, x2, y2, z2, -⟩ := c_word (v := V 1) y1 (by omega)
  obtain ⟨c3, x3, y3, z3, -⟩ := c_word (v := V 2) y2 (by omega)
  obtain ⟨c4, x4, y4, z4, -⟩ := c_word (v := V 3) y3 (by omega)
  obtain ⟨c5, x5, y5, z5, -⟩ := c_word (v := V 4) y4 (by omega)
  have g1 : Option.bind (f_X5_appendWord c 1 (V 0)) (fun w2 => Option.bind (f_X5_appendWord w2 1 (V 1)) (fun w3 => Option.bind (f_X5_appendWord w3 1 (V 2)) (fun w4 => Option.bind (f_X5_appendWord w4 1 (V 3)) (fun w5 => Option.bind (f_X5_appendWord w5 1 (V 4)) (fun w6 => some (w6.1 1 1, w6)))))) = some (r, c') := g1
  rw [x1, Option.bind_some, x2, Option.bind_some, x3, Option.bind_some, x4, Option.bind_some, x5, Option.bind_some] at g1
  obtain rfl : c5 = c' := congrArg Prod.snd (Option.some.inj g1)
  refine ⟨y5, fun j hj => ?_, fun j hj => ?_⟩
  · rw [z5]
    by_cases h4 : 16 ≤ j
    · rw [if_pos ⟨by omega, by omega⟩, show L + j - (L + 4 + 4 + 4 + 4) = j % 4 by omega, show j / 4 = 4 by omega]
    · rw [if_neg (fun z => by omega), z4]
      by_cases h3 : 12 ≤ j
      · rw [if_pos ⟨by omega, by omega⟩, show L + j - (L + 4 + 4 + 4) = j % 4 by omega, show j / 4 = 3 by omega]
      · rw [if_neg (fun z => by omega), z3]
        by_cases h2 : 8 ≤ j
        · rw [if_pos ⟨by omega, by omega⟩, show L + j - (L + 4 + 4) = j % 4 by omega, show j / 4 = 2 by omega]
        · rw [if_neg (fun z => by omega), z2]
          by_cases h1 : 4 ≤ j
          · rw [if_pos ⟨by omega, by omega⟩, show L + j - (L + 4) = j % 4 by omega, show j / 4 = 1 by omega]
          · rw [if_neg (fun z => by omega), z1, if_pos ⟨by omega, by omega⟩, show L + j - L = j % 4 by omega, show j / 4 = 0 by omega]
  · rw [z5, if_neg (fun z => by omega), z4, if_neg (fun z => by omega), z3, if_neg (fun z => by omega), z2, if_neg (fun z => by omega), z1, if_neg (fun z => by omega)]
/-- five words out of twenty characters -/
theorem words_fwd (hn : n = t.length) (hn2 : n ≤ 200) (hf : ∀ j, j < n → ft j = nI (t.getD j 0)) (h128 : ∀ j, j < n → t.getD j 0 < 128) {p : Nat} (hp : p ≤ 200) {x : Nat} {w : Wd} : wp (lp (b_L_load_20 n (x, nI p, w) ft) NF ((0 : Int32), fun _ => 0)) (fun f => ∀ q, q < 5 → f q = wv (fun i => Cx t (p + 4 * q + i)) 4) := by
  refine lp_inv (fun k s => s.1 = nI k ∧ ∀ q, q < 5 → s.2 q = wv (fun i => Cx t (p + 4 * q + i)) (min 4 (k - 4 * q))) _ 20 ?_ ?_ (by unfold NF; omega) ⟨rfl, fun q hq => by rw [Nat.zero_sub, Nat.min_zero]; rfl⟩
  · rintro k ⟨s, f⟩ hk ⟨h1, h2⟩
    dsimp only at h1 h2
    subst h1
    have h4 : k / 4 < 5 := by omega
    unfold b_L_load_20
    dsimp only
    rw [if_neg (fun z => by have := (n_le (a := 20) (by omega) (by omega)).mp z; omega), n_div (by omega), rdS_at h4 (by decide), Option.bind_some, show nI p + nI k = nI (p + k) from nI_add p k]
    have hq := h2 (k / 4) h4
    have hm : min 4 (k - 4 * (k / 4)) = k % 4 := by omega
    rw [hm] at hq
    have step : ∀ c, c = Cx t (p + k) → (∀ q, q < 5 → (upd f (k / 4) (jshl (f (k / 4)) (8 : Int32) ||| nI c)) q = wv (fun i => Cx t (p + 4 * q + i)) (min 4 (k + 1 - 4 * q))) := fun c hc q hq5 => by
      by_cases e : q = k / 4
      · subst e
        rw [upd_s, hq, show min 4 (k + 1 - 4 * (k / 4)) = k % 4 + 1 by omega]
        show _ = jshl (wv _ (k % 4)) (8 : Int32) ||| nI (Cx t (p + 4 * (k / 4) + k % 4))
        rw [hc, show p + 4 * (k / 4) + k % 4 = p + k by omega]
      · rw [upd_o e, h2 q hq5]
        congr 1
        omega
    by_cases hlt : n ≤ p + k
    · rw [if_pos ((n_le (by omega) (by omega)).mpr hlt), wrA_at h4 (by decide), Option.bind_some, wp_some]
      refine ⟨nI_1 k, step 32 ?_⟩
      unfold Cx
      rw [if_neg (by omega)]
    · rw [if_neg (fun z => hlt ((n_le (by omega) (by omega)).mp z)), rdT_at (c := t.getD (p + k) 0) (by omega) (by omega) (hf _ (by omega)) (h128 _ (by omega)), Option.bind_some, wrA_at h4 (by decide), Option.bind_some, wp_some]
      refine ⟨nI_1 k, step _ ?_⟩
      unfold Cx
      rw [if_pos (by omega)]
  · rintro ⟨s, f⟩ ⟨h1, h2⟩
    dsimp only at h1 h2
    subst h1
    unfold b_L_load_20
    dsimp only
    rw [if_pos (show (20 : Int32) ≤ nI 20 from (n_le (a := 20) (by omega) (by omega)).mpr (Nat.le_refl _)), wp_some]
    intro q hq
    rw [h2 q hq, show min 4 (20 - 4 * q) = 4 by omega]
theorem load_loop (h : RW c m) (h0 : c.1 1 1 = 0) (hn : n = t.length) (hn2 : n ≤ 200) (hf : ∀ j, j < n → ft j = nI (t.getD j 0)) (h128 : ∀ j, j < n → t.getD j 0 < 128) : ∃ c' m' L, lp (b_L_load_7 n ft) NF (0, (0 : Int32), c) = some c' ∧ RW c' m' ∧ c'.1 1 1 = nI L ∧ L ≤ 600 ∧ n ≤ L ∧ ∀ j, j < n → c'.1 2 j = jbyte (nI (t.getD j 0)) := by
  have hC : ∀ j, Cx t j < 128 := fun j => by
    unfold Cx
    by_cases hj : j < t.length
    · rw [if_pos hj]; exact h128 j (by omega)
    · rw [if_neg hj]; decide
  have key : wp (lp (b_L_load_7 n ft) NF (0, (0 : Int32), c)) (fun c' => ∃ m', RW c' m' ∧ c'.1 1 1 = nI (20 * ((n + 19) / 20)) ∧ ∀ j, j < 20 * ((n + 19) / 20) → c'.1 2 j = jbyte (nI (Cx t j))) := by
    refine lp_inv (fun k s => s.1 = k ∧ s.2.1 = nI (20 * k) ∧ ∃ m', RW s.2.2 m' ∧ s.2.2.1 1 1 = nI (20 * k) ∧ ∀ j, j < 20 * k → s.2.2.1 2 j = jbyte (nI (Cx t j))) _ ((n + 19) / 20) ?_ ?_ (by have : NF = 65536 := rfl; omega) ⟨rfl, rfl, m, h, h0, fun j hj => by omega⟩
    · rintro k ⟨x, i, w⟩ hk ⟨h1, h2, m', h3, h4, h5⟩
      dsimp only at h1 h2 h3 h4 h5
      subst h1 h2
      unfold b_L_load_7
      dsimp only
      rw [if_pos (by omega), if_neg (fun z => by have := (n_le (by omega) (by omega)).mp z; omega)]
      obtain ⟨f, e1, e2⟩ := words_fwd (n := n) (ft := ft) hn hn2 hf h128 (p := 20 * x) (by omega) (x := x) (w := w)
      have r0 : rdS f 5 (0 : Int32) = some (f 0) := rdS_at (j := 0) (by decide) (by decide)
      have r1 : rdS f 5 (1 : Int32) = some (f 1) := rdS_at (j := 1) (by decide) (by decide)
      have r2 : rdS f 5 (2 : Int32) = some (f 2) := rdS_at (j := 2) (by decide) (by decide)
      have r3 : rdS f 5 (3 : Int32) = some (f 3) := rdS_at (j := 3) (by decide) (by decide)
      have r4 : rdS f 5 (4 : Int32) = some (f 4) := rdS_at (j := 4) (by decide) (by decide)
      rw [e1, Option.bind_some, r0, Option.bind_some, r1, Option.bind_some, r2, Option.bind_some, r3, Option.bind_some, r4, Option.bind_some]
      obtain ⟨r, c', m2, g1, g2, g3, g4, g5⟩ := app_fwd h3 h4 (by omega) f
      rw [g1, Option.bind_some, wp_some]
      refine ⟨rfl, nI_add (20 * x) 20, m2, g2, g3, fun j hj => ?_⟩
      by_cases hj2 : j < 20 * x
      · exact (g5 j hj2).trans (h5 j hj2)
      · have hj : j < 20 * (x + 1) := hj
        have := g4 (j - 20 * x) (by omega)
        rw [show 20 * x + (j - 20 * x) = j by omega] at this
        show c'.1 2 j = _
        rw [this, e2 _ (by omega), bW_wv (fun i _ => by have := hC (20 * x + 4 * ((j - 20 * x) / 4) + i); omega) (by omega)]
        rw [show 20 * x + 4 * ((j - 20 * x) / 4) + (j - 20 * x) % 4 = j by omega]
    · rintro ⟨x, i, w⟩ ⟨h1, h2, m', h3, h4, h5⟩
      dsimp only at h1 h2 h3 h4 h5
      subst h1 h2
      unfold b_L_load_7
      dsimp only
      rw [if_pos (by omega), if_pos ((n_le (by omega) (by omega)).mpr (by omega)), wp_some]
      exact ⟨m', h3, h4, h5⟩
  obtain ⟨c', e1, m', e2, e3, e4⟩ := key
  refine ⟨c', m', _, e1, e2, e3, by omega, by omega, fun j hj => ?_⟩
  rw [e4 j (by omega)]
  unfold Cx
  rw [if_pos (by omega)]
end A6
theorem StmtOK.chars {u : List Nat} (h : StmtOK u) : ∀ y ∈ u, y < 128 := by
  rcases h with ⟨a, o, ha, ho, rfl⟩ | ⟨a, b, ha, hb, rfl⟩ | ⟨a, b, f, ha, hb, hf, rfl⟩ | ⟨a, b, f, ha, hb, hf, rfl⟩ | ⟨a, b, d, ha, hb, hd, rfl⟩ <;>
  · intro y hy
    simp only [lsN, List.getD_cons_zero, List.getD_cons_succ, List.cons_append, List.nil_append, List.mem_cons, List.not_mem_nil, or_false] at hy
    omega
theorem HeadOK.chars {t : List Nat} (h : HeadOK t) : ∀ y ∈ t, y < 128 := by
  obtain ⟨p1, p2, rfl, h1, h2⟩ := h
  rcases h1 with rfl | rfl <;> rcases h2 with rfl | ⟨a, b, ha, hb, rfl⟩ <;>
  · intro y hy
    simp only [lsN, List.getD_cons_zero, List.getD_cons_succ, List.cons_append, List.nil_append, List.append_nil, List.mem_cons, List.not_mem_nil, or_false] at hy
    try omega
theorem ProgOK.chars {t : List Nat} {k : Nat} (h : ProgOK t k) : ∀ y ∈ t, y < 128 := by
  obtain ⟨h0, us, rfl, h1, h2, h3⟩ := h
  intro y hy
  rcases List.mem_append.mp hy with hy | hy
  · exact h1.chars y hy
  · obtain ⟨u, hu, hy⟩ := List.mem_flatten.mp hy
    exact (h3 u hu).chars y hy
theorem load_fwd {c m : Wd} {ft : Nat → Int32} {t : List Nat} {k : Nat} (h : RW c m) (h0 : c.1 1 1 = 0) (hp : ProgOK t k) (hk : k ≤ 10) (hf : ∀ j, j < t.length → ft j = nI (t.getD j 0)) : ∃ c2 m2 p P K V O, f_L_load c t.length ft = some (nI k, c2) ∧ WR p P K V O c2 m2 ∧ nc K = k ∧ ∀ i, bt (en K) i = decide (i < nc K) := by
  have hlen := hp.len
  have h128 : ∀ j, j < t.length → t.getD j 0 < 128 := fun j hj => by
    rw [List.getD_eq_getElem?_getD, List.getElem?_eq_getElem hj]
    exact hp.chars _ (List.getElem_mem hj)
  obtain ⟨c', m', L, e1, e2, e3, e4, e5, e6⟩ := load_loop (n := t.length) h h0 rfl (by omega) hf h128
  obtain ⟨c2, m2, p, P, K, V, O, g1, g2, g3, g4⟩ := parse_fwd (T := fun j => t.getD j 0) (n := t.length) e2 hp (by omega) (fun i hi => by dsimp only; rw [Nat.zero_add]) rfl e3 e4 e5 (fun j hj => ⟨by have := h128 j hj; omega, e6 j hj⟩)
  refine ⟨c2, m2, p, P, K, V, O, ?_, g2, g3, g4⟩
  unfold f_L_load
  rw [e1, Option.bind_some, g1, Option.bind_some]
