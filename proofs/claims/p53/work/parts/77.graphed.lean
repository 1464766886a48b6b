/-! build and graphed: the class's graph is right once a call has asked for it. -/
/-- the graph's cache: marked stale, or right -/
def GC (P : PK) (K : CK) (c : Wd) : Prop := c.1 0 9 = bI true ∨ (c.1 0 9 = bI false ∧ GG P K c)
/-- what the graph's calls leave alone in the class -/
def FgC (c c' : Wd) : Prop := (∀ q, q ≠ 0 → c'.1 q = c.1 q) ∧ (∀ j, j ≠ 9 → c'.1 0 j = c.1 0 j) ∧ (∀ q, q < 54 ∨ 57 < q → c'.2.1 q = c.2.1 q) ∧ c'.2.2 = c.2.2
theorem FgC.refl (c : Wd) : FgC c c := ⟨fun _ _ => rfl, fun _ _ => rfl, fun _ _ => rfl, rfl⟩
theorem RPc.keepG {c c' : Wd} {p : Nat} {P : PK} (hp : PC p) (h : RPc c p P) (k : FgC c c') : RPc c' p P := by
  have hpp : p = 4 ∨ p = 18 := hp
  unfold RPc at h ⊢
  rw [k.1 _ (by omega), k.1 _ (by omega), k.1 _ (by omega), k.1 p (by omega), k.1 _ (by omega), k.1 _ (by omega)]
  exact h
theorem RLc.keepG {c c' : Wd} {L : Nat} {K : CK} (hp : LC L) (h : RLc c L K) (k : FgC c c') : RLc c' L K := by
  have hpp : L = 13 ∨ L = 27 ∨ L = 35 ∨ L = 40 := hp
  unfold RLc at h ⊢
  rw [k.1 L (by omega), k.1 _ (by omega), k.1 _ (by omega), k.1 _ (by omega), k.1 _ (by omega)]
  exact h
theorem SolC.keep1 {P : PK} {K : CK} {c c' : Wd} (h : SolC P K c) (k : ∀ q, q ≠ 0 → c'.1 q = c.1 q) : SolC P K c' := h.keep fun q q1 _ => k q (by omega)
section GD
variable {p : Nat} {P : PK} {K : CK} {c c' m w : Wd} {i n s t : Nat}
theorem Base.keepG (h : Base p P K c m) (k : FgC c c') : Base p P K c' m := by
  obtain ⟨h1, h2, h3, h4, h5, h6, h7, h8, h9, h10⟩ := h
  exact ⟨h1, by rw [k.2.2.2]; exact h2, h3.keepG h1 k, h4.keepG h1.LC k, h5, h6, h7, h8, h9.keep1 k.1, h10⟩
theorem vset_cong {T U : Nat → Int32} (hPw : PWF P) (hr : RowOK P (kd K i) (ka K i) (kb K i) (kc K i)) (hs : ∀ k, k < 56 → T k = U k) : vset P K T i = vset P K U i := by
  have hnv := hPw.1
  obtain ⟨g0, g1, g2, g3, g4, g5, g6⟩ := hr
  unfold vset
  by_cases h1 : kd K i = 1
  · rw [if_pos h1, if_pos h1]
  · rw [if_neg h1, if_neg h1]
    by_cases h2 : kd K i = 2
    · rw [if_pos h2, if_pos h2, hs _ (by have := g4 h2; omega)]
    · rw [if_neg h2, if_neg h2]
      by_cases h3 : kd K i = 3
      · rw [if_pos h3, if_pos h3, hs _ (by omega)]
      · rw [if_neg h3, if_neg h3]
        by_cases h4 : kd K i = 4
        · rw [if_pos h4, if_pos h4, hs _ (by have := g6 h4; omega)]
        · rw [if_neg h4, if_neg h4]
theorem c_fillL {k : Nat} (hk : zln zC k = 56) : wp (f_J7_fillL c k 0) (fun w => w.1 = c.1 ∧ (∀ q, q ≠ k → w.2.1 q = c.2.1 q) ∧ w.2.2 = c.2.2 ∧ ∀ s, s < 56 → w.2.1 k s = 0) := by
  unfold f_J7_fillL
  rw [wp_bind]
  refine wp_mono (lp_inv (fun i r => r.1 = nI i ∧ r.2.1 = c.1 ∧ (∀ q, q ≠ k → r.2.2.1 q = c.2.1 q) ∧ r.2.2.2 = c.2.2 ∧ ∀ s, s < i → r.2.2.1 k s = 0) (fun w => w.1 = c.1 ∧ (∀ q, q ≠ k → w.2.1 q = c.2.1 q) ∧ w.2.2 = c.2.2 ∧ ∀ s, s < 56 → w.2.1 k s = 0) 56 ?_ ?_ (by decide) ⟨rfl, rfl, fun q hq => rfl, rfl, fun s hs => by omega⟩) (fun r q => wp_some.mpr q)
  · rintro i ⟨a, w⟩ hi ⟨h1, h2, h3, h4, h5⟩
    dsimp only at h1 h2 h3 h4 h5
    subst h1
    unfold b_J7_fillL_1
    dsimp only
    rw [hk, if_pos ((n_lt (by omega) (by omega)).mpr hi), wrL_C (by rw [hk]; exact hi), Option.bind_some, wp_some]
    refine ⟨nI_1 i, h2, fun q hq => by dsimp only; rw [wsL_o _ _ _ hq]; exact h3 q hq, h4, fun s hs => ?_⟩
    dsimp only
    rw [wsL_s]
    by_cases e : s = i
    · subst e; rw [updL_s]
    · rw [updL_o e]; exact h5 s (by omega)
  · rintro ⟨a, w⟩ ⟨h1, h2, h3, h4, h5⟩
    dsimp only at h1 h2 h3 h4 h5
    subst h1
    unfold b_J7_fillL_1
    dsimp only
    rw [hk, if_neg (by decide), wp_some]
    exact ⟨h2, h3, h4, h5⟩
theorem c_build (h : Base p P K c m) : wp (f_X1_build c 54 p 45) (fun w => GG P K w ∧ w.1 = c.1 ∧ (∀ q, q < 54 ∨ 57 < q → w.2.1 q = c.2.1 q) ∧ w.2.2 = c.2.2) := by
  obtain ⟨hp, h2, hP, hL, h5, h6, hPw, hKw, h9, h10⟩ := h
  have hn := hKw.1
  unfold f_X1_build
  rw [wp_bind]
  refine wp_mono (c_fillL (k := 55) rfl) fun w0 g0 => ?_
  obtain ⟨g1, g2, g3, g4⟩ := g0
  have hb0 : RPc w0 p P ∧ RLc w0 (p + 9) K := by
    unfold RPc RLc at *
    rw [g1]; exact ⟨hP, hL⟩
  rw [wp_bind]
  refine wp_mono (lp_inv (fun i r => r.1 = nI i ∧ Lay P K w0 (20 * i) r.2) (Lay P K w0 600) (nc K) ?_ ?_ (by unfold NF; omega) ⟨rfl, rfl, fun _ _ => rfl, rfl, fun s t hs ht => by dsimp only; rw [g4 s hs, l_0]; rfl⟩) ?_
  · rintro i ⟨a, w⟩ hi ⟨e1, e2⟩
    dsimp only at e1 e2
    subst e1
    obtain ⟨hP', hL'⟩ := e2.base hb0
    unfold b_X1_build_1
    dsimp only
    rw [zp6 hp, hL'.1, if_pos ((n_lt (by omega) (by omega)).mpr hi)]
    have hen : f_X0_isEnabled w (p + 9) (nI i) = bt (en K) i := by
      unfold f_X0_isEnabled
      rw [hL'.2.1, cont_bt (by omega)]
    rw [hen]
    cases e : bt (en K) i with
    | false =>
      rw [if_neg (by decide), Option.bind_some, wp_some]
      exact ⟨nI_1 i, e2.same (by omega) fun s t j a b => edn_off a b (Or.inl e)⟩
    | true =>
      have hv : vset P K (w.1 46) i = vset P K (LF P K) i := by
        exact vset_cong hPw (hKw.2.2 i hi) fun k hk => by rw [e2.1, g1]; exact h9.1 k hk
      rw [if_pos rfl]
      show wp (Option.bind (Option.bind (f_X6_viasIn w p 46 (nI i)) _) _) _
      rw [s_viasIn hp hP' hL' hPw hKw hi (q := 46) rfl, Option.bind_some, hv, wp_bind, wp_bind]
      refine wp_mono (c_addEdges hp hb0 hPw hKw hi e e2) fun r q => ?_
      rw [wp_some, wp_some]
      exact ⟨nI_1 i, q⟩
  · rintro ⟨a, w⟩ ⟨e1, e2⟩
    dsimp only at e1 e2
    subst e1
    obtain ⟨hP', hL'⟩ := e2.base hb0
    unfold b_X1_build_1
    dsimp only
    rw [zp6 hp, hL'.1, if_neg (fun z => Nat.lt_irrefl _ ((n_lt (by omega) (by omega)).mp z)), wp_some]
    exact e2.same (by omega) fun s t j a b => edn_far (by omega)
  · rintro w1 ⟨e1, e2, e3, e4⟩
    rw [wp_bind]
    refine wp_mono (c_findExisting (c := w1) hp (by unfold RPc at *; rw [e1]; exact hb0.1) hPw) fun w2 q2 => ?_
    obtain ⟨a1, a2, a3, a4⟩ := q2
    rw [wp_bind]
    refine wp_mono (c_findReached (c := w2) (P := P) (K := K) (fun s t hs ht => by rw [a2 55 (by omega)]; exact e4 s t hs ht)) fun w3 q3 => ?_
    obtain ⟨b1, b2, b3, b4⟩ := q3
    rw [wp_bind]
    refine wp_mono (c_findComponents (c := w3) (P := P) (K := K) b4) fun w4 q4 => ?_
    obtain ⟨d1, d2, d3, d4⟩ := q4
    rw [wp_some]
    refine ⟨⟨fun s t hs ht => ?_, d4, fun s hs => ?_⟩, ?_, fun q hq => ?_, ?_⟩
    · rw [d2 55 (by omega), b2 55 (by omega), a2 55 (by omega)]; exact e4 s t hs ht
    · rw [d2 54 (by omega), b2 54 (by omega)]; exact a4 s hs
    · rw [d1, b1, a1, e1, g1]
    · rw [d2 q (by omega), b2 q (by omega), a2 q (by omega), e2 q (by omega), g2 q (by omega)]
    · rw [d3, b3, a3, e3, g3]
theorem c_graphed (h : Base p P K c m) (hg : GC P K c) : ∃ c', f_X9_graphed c 0 = some (54, c') ∧ GG P K c' ∧ c'.1 0 9 = bI false ∧ FgC c c' := by
  unfold f_X9_graphed
  rcases hg with hg | ⟨hg, hG⟩
  · rw [hg, rdB_t, Option.bind_some, if_pos rfl, h.rp, Option.bind_some]
    obtain ⟨w, e1, e2, e3, e4, e5⟩ := c_build h
    show ∃ c', Option.bind (Option.bind (f_X1_build c 54 p 45) _) _ = _ ∧ _
    rw [e1, Option.bind_some, Option.bind_some, Option.bind_some]
    refine ⟨wsI w 0 9 (bI false), rfl, e2, by rw [wsI_s, upd_s], fun q hq => by rw [wsI_o _ _ _ hq, e3], fun j hj => by rw [wsI_s, upd_o hj, e3], e4, e5⟩
  · rw [hg, rdB_t, Option.bind_some, if_neg (by decide), Option.bind_some]
    exact ⟨c, rfl, hG, hg, FgC.refl c⟩
theorem GG.gc (h : GG P K c) (h2 : c.1 0 9 = bI false) : GC P K c := Or.inr ⟨h2, h⟩
end GD
